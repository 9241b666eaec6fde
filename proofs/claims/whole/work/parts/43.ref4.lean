abbrev wX12_luredTo : List Cond := Cond.code yX12_luredTo cX12_luredTo 6 (some .int) :: WALL
def m_X12_luredTo (n : Nat) (v0 : St) (x1 : Int32) : Option (Int32 × St) :=
lp (fun (rc1 : Int32 × Int32 × Int32 × St → Option (Int32 × St)) (x1l : Int32 × Int32 × Int32 × St) =>
bd (m_X12_houses n x1l.2.2.2) (fun t2 =>
(if t2 ≤ x1l.2.2.1 then
some (x1l.1, x1l.2.2.2)
else
bd (m_X12_holds n x1 x1l.2.2.1) (fun t3 =>
bd ((if t3 = 0 then
bd (m_X12_luresBy n x1l.2.2.2 x1l.2.2.1) (fun t7 =>
some (t7.1, t7.2))
else
some ((-1), x1l.2.2.2))) (fun (t4 : Int32 × St) =>
bd ((if t4.1 ≤ x1l.2.1 then
some x1l.1
else
some x1l.2.2.1)) (fun (t5 : Int32) =>
nm (x_max x1l.2.1 t4.1) (fun x3_6 =>
rc1 (t5, x3_6, (x1l.2.2.1 + 1), t4.2)))))))) n ((-1), (-1), 0, v0)
set_option maxHeartbeats 4000000 in
set_option maxRecDepth 100000 in
theorem c_X12_luredTo (l : Launch) (D : va_G) (y : Nat → ClassId) (ek : EK) (n : Nat) (a0 : Nat → Nat) (v0 : St) (x1 : Int32) (res : Int32 × St) (hf : m_X12_luredTo n v0 x1 = some res) : CI l yX12_luredTo wX12_luredTo { frames := 10, cells := 0, slots := 0, locals := 226 } D y ek [.ref (a0 0), .int x1] [bX12 y a0 v0] (res.1) [bX12 y a0 res.2] 0 0 := by
  unfold m_X12_luredTo at hf
  refine ci_of (cc := cX12_luredTo) (maxL := 6) (by decide) rfl rfl (Nat.le_of_ble_eq_true rfl) ?_
  intro p e s m below meth c Q A F hret
  refine a_lv (lv' := [(0, .ref (a0 0)), (1, .int x1)]) rfl ?_
  refine a_iconst (pc := 0) F dX12_luredTo_0 kc_m1 ?_
  refine a_istoren (pc := 1) (lv' := [(0, .ref (a0 0)), (1, .int x1), (2, .int (-1))]) F [1, 2, 0] dX12_luredTo_1 rfl (by decide) rfl ?_
  refine a_iconst (pc := 2) F dX12_luredTo_2 kc_m1 ?_
  refine a_istoren (pc := 3) (lv' := [(0, .ref (a0 0)), (1, .int x1), (2, .int (-1)), (3, .int (-1))]) F [1, 2, 3, 0] dX12_luredTo_3 rfl (by decide) rfl ?_
  refine a_iconst (pc := 4) F dX12_luredTo_4 kc_0 ?_
  refine a_istore (pc := 5) (lv' := [(0, .ref (a0 0)), (1, .int x1), (2, .int (-1)), (3, .int (-1)), (4, .int 0)]) F [1, 2, 3, 4, 0] dX12_luredTo_5 (by decide) rfl ?_
  refine a_loop 7 (fun (x1l : Int32 × Int32 × Int32 × St) => [(0, .ref (a0 0)), (1, .int x1), (2, .int x1l.1), (3, .int x1l.2.1), (4, .int x1l.2.2.1)]) (fun (x1l : Int32 × Int32 × Int32 × St) => [bX12 y a0 x1l.2.2.2]) (fun rc1 x1l ih1 hf => ?_) hf rfl rfl
  try dsimp only at hf ⊢
  refine a_iload (pc := 7) (j := 4) F dX12_luredTo_7 rfl ?_
  refine a_aloadn (pc := 9) (j := 0) F dX12_luredTo_9 rfl rfl ?_
  obtain ⟨t2, ht2, hf⟩ := bd_some hf
  refine a_callV (pc := 10) (bs' := [bX12 y a0 x1l.2.2.2]) (kb := 0) (j := 0) F [0] (c_X12_houses l D y ek n a0 _ _ ht2) (cwV 0 F.1.2.2.2.2 (gV q6_220 q6_222 qs_38 q1_11 q6_223) rfl rfl rfl (by decide +kernel) ⟨Nat.le_of_ble_eq_true rfl, Nat.le_of_ble_eq_true rfl⟩) rfl rfl rfl rfl (by decide) rfl rfl rfl rfl rfl rfl (Nat.le_of_ble_eq_true rfl) ⟨Nat.zero_le _, Nat.zero_le _⟩ dX12_luredTo_10 ?_
  refine a_icmp_ge (pc := 13) (tgt := 63) F dX12_luredTo_13 (by decide) (fun h => ?_) (fun h => ?_)
  · replace hf := it_pos h hf
    refine a_iloadn (pc := 63) (j := 2) F dX12_luredTo_63 rfl rfl ?_
    obtain rfl := Option.some.inj hf
    exact hret _ _ _ _ (Nat.zero_le _) (Nat.zero_le _) rfl dX12_luredTo_64
  · replace hf := it_neg h hf
    refine a_iloadn (pc := 16) (j := 1) F dX12_luredTo_16 rfl rfl ?_
    refine a_iload (pc := 17) (j := 4) F dX12_luredTo_17 rfl ?_
    obtain ⟨t3, ht3, hf⟩ := bd_some hf
    refine a_callS (pc := 19) (bs' := [bX12 y a0 x1l.2.2.2]) F [] (c_X12_holds l D y ek n  _ _ _ ht3) (va_cwS 2 F.1.2.2.2.2 (gS q7_108 q7_109 q1_11 q7_110) rfl rfl rfl (by decide +kernel) ⟨Nat.le_of_ble_eq_true rfl, Nat.le_of_ble_eq_true rfl⟩) (by decide) rfl rfl rfl rfl rfl rfl (Nat.le_of_ble_eq_true rfl) ⟨Nat.zero_le _, Nat.zero_le _⟩ dX12_luredTo_19 ?_
    refine a_join 35 (fun (t4 : Int32 × St) => [(0, .ref (a0 0)), (1, .int x1), (2, .int x1l.1), (3, .int x1l.2.1), (4, .int x1l.2.2.1)]) (fun (t4 : Int32 × St) => [.int t4.1]) (fun (t4 : Int32 × St) => [bX12 y a0 t4.2]) hf (fun t4 hf => ?_) (fun t4 hf J4 => ?_)
    · try dsimp only at hf ⊢
      refine a_istore (pc := 35) (lv' := [(0, .ref (a0 0)), (1, .int x1), (2, .int x1l.1), (3, .int x1l.2.1), (4, .int x1l.2.2.1), (5, .int t4.1)]) F [1, 2, 3, 4, 5, 0] dX12_luredTo_35 (by decide) rfl ?_
      refine a_iload (pc := 37) (j := 5) F dX12_luredTo_37 rfl ?_
      refine a_iloadn (pc := 39) (j := 3) F dX12_luredTo_39 rfl rfl ?_
      refine a_join 49 (fun (t5 : Int32) => [(0, .ref (a0 0)), (1, .int x1), (3, .int x1l.2.1), (4, .int x1l.2.2.1), (5, .int t4.1)]) (fun (t5 : Int32) => [.int t5]) (fun (t5 : Int32) => [bX12 y a0 t4.2]) hf (fun t5 hf => ?_) (fun t5 hf J5 => ?_)
      · try dsimp only at hf ⊢
        refine a_istoren (pc := 49) (lv' := [(0, .ref (a0 0)), (1, .int x1), (2, .int t5), (3, .int x1l.2.1), (4, .int x1l.2.2.1), (5, .int t4.1)]) F [1, 2, 0, 3, 4, 5] dX12_luredTo_49 rfl (by decide) rfl ?_
        refine a_iloadn (pc := 50) (j := 3) F dX12_luredTo_50 rfl rfl ?_
        refine a_iload (pc := 51) (j := 5) F dX12_luredTo_51 rfl ?_
        refine a_mmax (pc := 53) F (tl q7_120) (tl q2_173) (tl q1_22) (tl q_math_max) (Nat.le_of_ble_eq_true rfl) (Nat.le_of_ble_eq_true rfl) (Nat.zero_le _) (Nat.zero_le _) dX12_luredTo_53 ?_
        obtain ⟨x3_6, ex3_6, hf⟩ := nm_some hf
        refine a_nmi ex3_6 ?_
        refine a_istoren (pc := 56) (lv' := [(0, .ref (a0 0)), (1, .int x1), (2, .int t5), (3, .int x3_6), (4, .int x1l.2.2.1), (5, .int t4.1)]) F [1, 2, 3, 0, 4, 5] dX12_luredTo_56 rfl (by decide) rfl ?_
        refine a_iinc (pc := 57) (j := 4) (v := (x1l.2.2.1 + 1)) (lv' := [(0, .ref (a0 0)), (1, .int x1), (2, .int t5), (3, .int x3_6), (4, .int (x1l.2.2.1 + 1)), (5, .int t4.1)]) F [1, 2, 3, 4, 0, 5] dX12_luredTo_57 rfl ki_1 (by decide) rfl ?_
        refine a_goto (pc := 60) (tgt := 7) F dX12_luredTo_60 (by decide) ?_
        refine a_sub [0, 1, 2, 3, 4] rfl ?_
        exact ih1 (t5, x3_6, (x1l.2.2.1 + 1), t4.2) hf
      · refine a_icmp_le (pc := 40) (tgt := 48) F dX12_luredTo_40 (by decide) (fun h => ?_) (fun h => ?_)
        · replace hf := it_pos h hf
          refine a_iloadn (pc := 48) (j := 2) F dX12_luredTo_48 rfl rfl ?_
          refine a_sub [0, 1, 3, 4, 5] rfl ?_
          obtain rfl := Option.some.inj hf
          exact J5
        · replace hf := it_neg h hf
          refine a_iload (pc := 43) (j := 4) F dX12_luredTo_43 rfl ?_
          refine a_goto (pc := 45) (tgt := 49) F dX12_luredTo_45 (by decide) ?_
          refine a_sub [0, 1, 3, 4, 5] rfl ?_
          obtain rfl := Option.some.inj hf
          exact J5
    · refine a_if_eq (pc := 22) (tgt := 29) F dX12_luredTo_22 (by decide) (fun h => ?_) (fun h => ?_)
      · replace hf := it_pos h hf
        refine a_aloadn (pc := 29) (j := 0) F dX12_luredTo_29 rfl rfl ?_
        refine a_iload (pc := 30) (j := 4) F dX12_luredTo_30 rfl ?_
        obtain ⟨t7, ht7, hf⟩ := bd_some hf
        refine a_callV (pc := 32) (bs' := [bX12 y a0 t7.2]) (kb := 0) (j := 0) F [0] (c_X12_luresBy l D y ek n a0 _ _ _ ht7) (cwV 1 F.1.2.2.2.2 (gV q7_167 q7_169 qs_72 q1_11 q7_170) rfl rfl rfl (by decide +kernel) ⟨Nat.le_of_ble_eq_true rfl, Nat.le_of_ble_eq_true rfl⟩) rfl rfl rfl rfl (by decide) rfl rfl rfl rfl rfl rfl (Nat.le_of_ble_eq_true rfl) ⟨Nat.zero_le _, Nat.zero_le _⟩ dX12_luredTo_32 ?_
        obtain rfl := Option.some.inj hf
        exact J4
      · replace hf := it_neg h hf
        refine a_iconst (pc := 25) F dX12_luredTo_25 kc_m1 ?_
        refine a_goto (pc := 26) (tgt := 35) F dX12_luredTo_26 (by decide) ?_
        obtain rfl := Option.some.inj hf
        exact J4

abbrev wX12_dearestIn : List Cond := Cond.code yX12_dearestIn cX12_dearestIn 4 (some .int) :: WALL
def m_X12_dearestIn (n : Nat) (v0 : St) (x1 : Int32) : Option (Int32) :=
lp (fun (rc1 : Int32 × Int32 → Option (Int32)) (x1l : Int32 × Int32) =>
bd (m_X12_things n v0) (fun t2 =>
(if t2 ≤ x1l.2 then
some x1l.1
else
bd (m_X12_ofThing n v0 x1l.2 2) (fun t3 =>
bd ((if t3 = x1 then
jn (fun (t5 : Unit) =>
some x1l.2) (fun (K5 : Unit → Option (Int32)) =>
(if x1l.1 = (-1) then
K5 ()
else
bd (m_X12_ofThing n v0 x1l.2 1) (fun t6 =>
bd (m_X12_ofThing n v0 x1l.1 1) (fun t7 =>
(if t6 ≤ t7 then
some x1l.1
else
K5 ())))))
else
some x1l.1)) (fun (t4 : Int32) =>
rc1 (t4, (x1l.2 + 1))))))) n ((-1), 0)
set_option maxHeartbeats 4000000 in
set_option maxRecDepth 100000 in
theorem c_X12_dearestIn (l : Launch) (D : va_G) (y : Nat → ClassId) (ek : EK) (n : Nat) (a0 : Nat → Nat) (v0 : St) (x1 : Int32) (res : Int32) (hf : m_X12_dearestIn n v0 x1 = some res) : CI l yX12_dearestIn wX12_dearestIn { frames := 2, cells := 0, slots := 0, locals := 43 } D y ek [.ref (a0 0), .int x1] [bX12 y a0 v0] (res) [bX12 y a0 v0] 0 0 := by
  unfold m_X12_dearestIn at hf
  refine ci_of (cc := cX12_dearestIn) (maxL := 4) (by decide) rfl rfl (Nat.le_of_ble_eq_true rfl) ?_
  intro p e s m below meth c Q A F hret
  refine a_lv (lv' := [(0, .ref (a0 0)), (1, .int x1)]) rfl ?_
  refine a_iconst (pc := 0) F dX12_dearestIn_0 kc_m1 ?_
  refine a_istoren (pc := 1) (lv' := [(0, .ref (a0 0)), (1, .int x1), (2, .int (-1))]) F [1, 2, 0] dX12_dearestIn_1 rfl (by decide) rfl ?_
  refine a_iconst (pc := 2) F dX12_dearestIn_2 kc_0 ?_
  refine a_istoren (pc := 3) (lv' := [(0, .ref (a0 0)), (1, .int x1), (2, .int (-1)), (3, .int 0)]) F [1, 2, 3, 0] dX12_dearestIn_3 rfl (by decide) rfl ?_
  refine a_loop 4 (fun (x1l : Int32 × Int32) => [(0, .ref (a0 0)), (1, .int x1), (2, .int x1l.1), (3, .int x1l.2)]) (fun (x1l : Int32 × Int32) => [bX12 y a0 v0]) (fun rc1 x1l ih1 hf => ?_) hf rfl rfl
  try dsimp only at hf ⊢
  refine a_iloadn (pc := 4) (j := 3) F dX12_dearestIn_4 rfl rfl ?_
  refine a_aloadn (pc := 5) (j := 0) F dX12_dearestIn_5 rfl rfl ?_
  obtain ⟨t2, ht2, hf⟩ := bd_some hf
  refine a_callV (pc := 6) (bs' := [bX12 y a0 v0]) (kb := 0) (j := 0) F [0] (c_X12_things l D y ek n a0 _ _ ht2) (cwV 0 F.1.2.2.2.2 (gV q6_234 q6_236 qs_41 q1_11 q6_237) rfl rfl rfl (by decide +kernel) ⟨Nat.le_of_ble_eq_true rfl, Nat.le_of_ble_eq_true rfl⟩) rfl rfl rfl rfl (by decide) rfl rfl rfl rfl rfl rfl (Nat.le_of_ble_eq_true rfl) ⟨Nat.zero_le _, Nat.zero_le _⟩ dX12_dearestIn_6 ?_
  refine a_icmp_ge (pc := 9) (tgt := 50) F dX12_dearestIn_9 (by decide) (fun h => ?_) (fun h => ?_)
  · replace hf := it_pos h hf
    refine a_iloadn (pc := 50) (j := 2) F dX12_dearestIn_50 rfl rfl ?_
    obtain rfl := Option.some.inj hf
    exact hret _ _ _ _ (Nat.zero_le _) (Nat.zero_le _) rfl dX12_dearestIn_51
  · replace hf := it_neg h hf
    refine a_aloadn (pc := 12) (j := 0) F dX12_dearestIn_12 rfl rfl ?_
    refine a_iloadn (pc := 13) (j := 3) F dX12_dearestIn_13 rfl rfl ?_
    refine a_iconst (pc := 14) F dX12_dearestIn_14 kc_2 ?_
    obtain ⟨t3, ht3, hf⟩ := bd_some hf
    refine a_callV (pc := 15) (bs' := [bX12 y a0 v0]) (kb := 0) (j := 0) F [0] (c_X12_ofThing l D y ek n a0 _ _ _ _ ht3) (cwV 2 F.1.2.2.2.2 (gV q7_100 q7_102 qs_59 q1_11 q7_103) rfl rfl rfl (by decide +kernel) ⟨Nat.le_of_ble_eq_true rfl, Nat.le_of_ble_eq_true rfl⟩) rfl rfl rfl rfl (by decide) rfl rfl rfl rfl rfl rfl (Nat.le_of_ble_eq_true rfl) ⟨Nat.zero_le _, Nat.zero_le _⟩ dX12_dearestIn_15 ?_
    refine a_iloadn (pc := 18) (j := 1) F dX12_dearestIn_18 rfl rfl ?_
    refine a_join 44 (fun (t4 : Int32) => [(0, .ref (a0 0)), (1, .int x1), (2, .int t4), (3, .int x1l.2)]) (fun (t4 : Int32) => []) (fun (t4 : Int32) => [bX12 y a0 v0]) hf (fun t4 hf => ?_) (fun t4 hf J4 => ?_)
    · try dsimp only at hf ⊢
      refine a_iinc (pc := 44) (j := 3) (v := (x1l.2 + 1)) (lv' := [(0, .ref (a0 0)), (1, .int x1), (2, .int t4), (3, .int (x1l.2 + 1))]) F [1, 2, 3, 0] dX12_dearestIn_44 rfl ki_1 (by decide) rfl ?_
      refine a_goto (pc := 47) (tgt := 4) F dX12_dearestIn_47 (by decide) ?_
      exact ih1 (t4, (x1l.2 + 1)) hf
    · refine a_icmp_ne (pc := 19) (tgt := 44) F dX12_dearestIn_19 (by decide) (fun h => ?_) (fun h => ?_)
      · replace hf := it_neg h hf
        obtain rfl := Option.some.inj hf
        exact J4
      · replace hf := it_pos h hf
        refine a_iloadn (pc := 22) (j := 2) F dX12_dearestIn_22 rfl rfl ?_
        refine a_iconst (pc := 23) F dX12_dearestIn_23 kc_m1 ?_
        refine a_jn 42 (fun (t5 : Unit) => [(0, .ref (a0 0)), (1, .int x1), (3, .int x1l.2)]) (fun (t5 : Unit) => []) (fun (t5 : Unit) => [bX12 y a0 v0]) hf (fun t5 hf => ?_) (fun K5 hK5 hf => ?_)
        · try dsimp only at hf ⊢
          refine a_iloadn (pc := 42) (j := 2) F dX12_dearestIn_42 rfl rfl ?_
          refine a_istoren (pc := 43) (lv' := [(0, .ref (a0 0)), (1, .int x1), (2, .int x1l.2), (3, .int x1l.2)]) F [1, 2, 0, 3] dX12_dearestIn_43 rfl (by decide) rfl ?_
          obtain rfl := Option.some.inj hf
          exact J4
        · try dsimp only at hf
          refine a_icmp_eq (pc := 24) (tgt := 42) F dX12_dearestIn_24 (by decide) (fun h => ?_) (fun h => ?_)
          · replace hf := it_pos h hf
            refine a_sub [0, 1, 3] rfl ?_
            exact hK5 () hf
          · replace hf := it_neg h hf
            refine a_aloadn (pc := 27) (j := 0) F dX12_dearestIn_27 rfl rfl ?_
            refine a_iloadn (pc := 28) (j := 3) F dX12_dearestIn_28 rfl rfl ?_
            refine a_iconst (pc := 29) F dX12_dearestIn_29 kc_1 ?_
            obtain ⟨t6, ht6, hf⟩ := bd_some hf
            refine a_callV (pc := 30) (bs' := [bX12 y a0 v0]) (kb := 0) (j := 0) F [0] (c_X12_ofThing l D y ek n a0 _ _ _ _ ht6) (cwV 2 F.1.2.2.2.2 (gV q7_100 q7_102 qs_59 q1_11 q7_103) rfl rfl rfl (by decide +kernel) ⟨Nat.le_of_ble_eq_true rfl, Nat.le_of_ble_eq_true rfl⟩) rfl rfl rfl rfl (by decide) rfl rfl rfl rfl rfl rfl (Nat.le_of_ble_eq_true rfl) ⟨Nat.zero_le _, Nat.zero_le _⟩ dX12_dearestIn_30 ?_
            refine a_aloadn (pc := 33) (j := 0) F dX12_dearestIn_33 rfl rfl ?_
            refine a_iloadn (pc := 34) (j := 2) F dX12_dearestIn_34 rfl rfl ?_
            refine a_iconst (pc := 35) F dX12_dearestIn_35 kc_1 ?_
            obtain ⟨t7, ht7, hf⟩ := bd_some hf
            refine a_callV (pc := 36) (bs' := [bX12 y a0 v0]) (kb := 0) (j := 0) F [0] (c_X12_ofThing l D y ek n a0 _ _ _ _ ht7) (cwV 2 F.1.2.2.2.2 (gV q7_100 q7_102 qs_59 q1_11 q7_103) rfl rfl rfl (by decide +kernel) ⟨Nat.le_of_ble_eq_true rfl, Nat.le_of_ble_eq_true rfl⟩) rfl rfl rfl rfl (by decide) rfl rfl rfl rfl rfl rfl (Nat.le_of_ble_eq_true rfl) ⟨Nat.zero_le _, Nat.zero_le _⟩ dX12_dearestIn_36 ?_
            refine a_icmp_le (pc := 39) (tgt := 44) F dX12_dearestIn_39 (by decide) (fun h => ?_) (fun h => ?_)
            · replace hf := it_pos h hf
              obtain rfl := Option.some.inj hf
              exact J4
            · replace hf := it_neg h hf
              refine a_sub [0, 1, 3] rfl ?_
              exact hK5 () hf

abbrev wX12_steals : List Cond := Cond.code yX12_steals cX12_steals 4 (some .int) :: WALL
def m_X12_steals (n : Nat) (v0 : St) (x1 : Int32) : Option (Int32 × St) :=
bd (m_X12_luredTo n v0 x1) (fun t1 =>
bd ((if t1.1 = (-1) then
some (-1)
else
bd (m_X12_dearestIn n t1.2 t1.1) (fun t6 =>
some t6))) (fun (t2 : Int32) =>
(if t2 = (-1) then
some (t2, t1.2)
else
bd (m_X12_thingAt n t2 2) (fun t3 =>
(if ix t3 2080 then nm (su t1.2 1 (t3).toNatClampNeg (-1)) (fun u5 =>
some (t2, u5)) else none)))))
set_option maxHeartbeats 4000000 in
set_option maxRecDepth 100000 in
theorem c_X12_steals (l : Launch) (D : va_G) (y : Nat → ClassId) (ek : EK) (n : Nat) (a0 : Nat → Nat) (v0 : St) (x1 : Int32) (res : Int32 × St) (hf : m_X12_steals n v0 x1 = some res) : CI l yX12_steals wX12_steals { frames := 11, cells := 0, slots := 0, locals := 251 } D y ek [.ref (a0 0), .int x1] [bX12 y a0 v0] (res.1) [bX12 y a0 res.2] 0 0 := by
  unfold m_X12_steals at hf
  refine ci_of (cc := cX12_steals) (maxL := 4) (by decide) rfl rfl (Nat.le_of_ble_eq_true rfl) ?_
  intro p e s m below meth c Q A F hret
  refine a_lv (lv' := [(0, .ref (a0 0)), (1, .int x1)]) rfl ?_
  refine a_aloadn (pc := 0) (j := 0) F dX12_steals_0 rfl rfl ?_
  refine a_iloadn (pc := 1) (j := 1) F dX12_steals_1 rfl rfl ?_
  obtain ⟨t1, ht1, hf⟩ := bd_some hf
  refine a_callV (pc := 2) (bs' := [bX12 y a0 t1.2]) (kb := 0) (j := 0) F [0] (c_X12_luredTo l D y ek n a0 _ _ _ ht1) (cwV 1 F.1.2.2.2.2 (gV q7_235 q7_237 qs_81 q1_11 q7_238) rfl rfl rfl (by decide +kernel) ⟨Nat.le_of_ble_eq_true rfl, Nat.le_of_ble_eq_true rfl⟩) rfl rfl rfl rfl (by decide) rfl rfl rfl rfl rfl rfl (Nat.le_of_ble_eq_true rfl) ⟨Nat.zero_le _, Nat.zero_le _⟩ dX12_steals_2 ?_
  refine a_istoren (pc := 5) (lv' := [(0, .ref (a0 0)), (1, .int x1), (2, .int t1.1)]) F [1, 2, 0] dX12_steals_5 rfl (by decide) rfl ?_
  refine a_iloadn (pc := 6) (j := 2) F dX12_steals_6 rfl rfl ?_
  refine a_iconst (pc := 7) F dX12_steals_7 kc_m1 ?_
  refine a_join 20 (fun (t2 : Int32) => [(0, .ref (a0 0))]) (fun (t2 : Int32) => [.int t2]) (fun (t2 : Int32) => [bX12 y a0 t1.2]) hf (fun t2 hf => ?_) (fun t2 hf J2 => ?_)
  · try dsimp only at hf ⊢
    refine a_istoren (pc := 20) (lv' := [(0, .ref (a0 0)), (3, .int t2)]) F [1, 0] dX12_steals_20 rfl (by decide) rfl ?_
    refine a_iloadn (pc := 21) (j := 1) F dX12_steals_21 rfl rfl ?_
    refine a_iconst (pc := 22) F dX12_steals_22 kc_m1 ?_
    refine a_icmp_eq (pc := 23) (tgt := 37) F dX12_steals_23 (by decide) (fun h => ?_) (fun h => ?_)
    · replace hf := it_pos h hf
      refine a_iloadn (pc := 37) (j := 1) F dX12_steals_37 rfl rfl ?_
      obtain rfl := Option.some.inj hf
      exact hret _ _ _ _ (Nat.zero_le _) (Nat.zero_le _) rfl dX12_steals_38
    · replace hf := it_neg h hf
      refine a_aloadn (pc := 26) (j := 0) F dX12_steals_26 rfl rfl ?_
      refine a_get (pc := 27) (kb := 0) (j := 0) (f := 1) F iW_X12 rfl rfl rfl (by decide) (tl q6_69) (fun _ h => h) rfl dX12_steals_27 ?_
      refine a_iloadn (pc := 30) (j := 1) F dX12_steals_30 rfl rfl ?_
      refine a_iconst (pc := 31) F dX12_steals_31 kc_2 ?_
      obtain ⟨t3, ht3, hf⟩ := bd_some hf
      refine a_callS (pc := 32) (bs' := [bX12 y a0 t1.2]) F [] (c_X12_thingAt l D y ek n  _ _ _ ht3) (va_cwS 2 F.1.2.2.2.2 (gS q7_4 q7_5 q1_11 q7_6) rfl rfl rfl (by decide +kernel) ⟨Nat.le_of_ble_eq_true rfl, Nat.le_of_ble_eq_true rfl⟩) (by decide) rfl rfl rfl rfl rfl rfl (Nat.le_of_ble_eq_true rfl) ⟨Nat.zero_le _, Nat.zero_le _⟩ dX12_steals_32 ?_
      refine a_iconst (pc := 35) F dX12_steals_35 kc_m1 ?_
      obtain ⟨h4, hf⟩ := gd_some hf
      obtain ⟨u5, eu5, hf⟩ := nm_some hf
      refine a_iast (pc := 36) (kb := 0) (j := 1) (bs' := [bX12 y a0 u5]) F rfl rfl h4 (by rw [eu5]; rfl) dX12_steals_36 ?_
      refine a_iloadn (pc := 37) (j := 1) F dX12_steals_37 rfl rfl ?_
      obtain rfl := Option.some.inj hf
      exact hret _ _ _ _ (Nat.zero_le _) (Nat.zero_le _) rfl dX12_steals_38
  · refine a_icmp_ne (pc := 8) (tgt := 15) F dX12_steals_8 (by decide) (fun h => ?_) (fun h => ?_)
    · replace hf := it_neg h hf
      refine a_aloadn (pc := 15) (j := 0) F dX12_steals_15 rfl rfl ?_
      refine a_iloadn (pc := 16) (j := 2) F dX12_steals_16 rfl rfl ?_
      obtain ⟨t6, ht6, hf⟩ := bd_some hf
      refine a_callV (pc := 17) (bs' := [bX12 y a0 t1.2]) (kb := 0) (j := 0) F [0] (c_X12_dearestIn l D y ek n a0 _ _ _ ht6) (cwV 1 F.1.2.2.2.2 (gV q8_11 q8_13 qs_84 q1_11 q8_14) rfl rfl rfl (by decide +kernel) ⟨Nat.le_of_ble_eq_true rfl, Nat.le_of_ble_eq_true rfl⟩) rfl rfl rfl rfl (by decide) rfl rfl rfl rfl rfl rfl (Nat.le_of_ble_eq_true rfl) ⟨Nat.zero_le _, Nat.zero_le _⟩ dX12_steals_17 ?_
      refine a_sub [0] rfl ?_
      obtain rfl := Option.some.inj hf
      exact J2
    · replace hf := it_pos h hf
      refine a_iconst (pc := 11) F dX12_steals_11 kc_m1 ?_
      refine a_goto (pc := 12) (tgt := 20) F dX12_steals_12 (by decide) ?_
      refine a_sub [0] rfl ?_
      obtain rfl := Option.some.inj hf
      exact J2

abbrev wX12_keepsAll : List Cond := Cond.code yX12_keepsAll cX12_keepsAll 2 none :: WALL
def m_X12_keepsAll (n : Nat) (v0 : St) : Option (St) :=
lp (fun (rc1 : Int32 × St → Option (St)) (x1l : Int32 × St) =>
(if 382 ≤ x1l.1 then
some x1l.2
else
(if ix x1l.1 2080 then (if ix x1l.1 382 then nm (su x1l.2 4 (x1l.1).toNatClampNeg (x1l.2 1 (x1l.1).toNatClampNeg)) (fun u4 =>
rc1 ((x1l.1 + 1), u4)) else none) else none))) n (0, v0)
set_option maxHeartbeats 4000000 in
set_option maxRecDepth 100000 in
theorem c_X12_keepsAll (l : Launch) (D : va_G) (y : Nat → ClassId) (ek : EK) (n : Nat) (a0 : Nat → Nat) (v0 : St) (res : St) (hf : m_X12_keepsAll n v0 = some res) : CV l yX12_keepsAll wX12_keepsAll { frames := 0, cells := 0, slots := 0, locals := 0 } D y ek [.ref (a0 0)] [bX12 y a0 v0] [bX12 y a0 res] 0 0 := by
  unfold m_X12_keepsAll at hf
  refine cv_of (cc := cX12_keepsAll) (maxL := 2) (by decide) rfl rfl (Nat.le_of_ble_eq_true rfl) ?_
  intro p e s m below meth c Q A F hret
  refine a_lv (lv' := [(0, .ref (a0 0))]) rfl ?_
  refine a_iconst (pc := 0) F dX12_keepsAll_0 kc_0 ?_
  refine a_istoren (pc := 1) (lv' := [(0, .ref (a0 0)), (1, .int 0)]) F [1, 0] dX12_keepsAll_1 rfl (by decide) rfl ?_
  refine a_loop 2 (fun (x1l : Int32 × St) => [(0, .ref (a0 0)), (1, .int x1l.1)]) (fun (x1l : Int32 × St) => [bX12 y a0 x1l.2]) (fun rc1 x1l ih1 hf => ?_) hf rfl rfl
  try dsimp only at hf ⊢
  refine a_iloadn (pc := 2) (j := 1) F dX12_keepsAll_2 rfl rfl ?_
  refine a_sipush (pc := 3) F dX12_keepsAll_3 ks_382 ?_
  refine a_icmp_ge (pc := 6) (tgt := 27) F dX12_keepsAll_6 (by decide) (fun h => ?_) (fun h => ?_)
  · replace hf := it_pos h hf
    obtain rfl := Option.some.inj hf
    exact hret _ _ _ _ (Nat.zero_le _) (Nat.zero_le _) dX12_keepsAll_27
  · replace hf := it_neg h hf
    refine a_aloadn (pc := 9) (j := 0) F dX12_keepsAll_9 rfl rfl ?_
    refine a_get (pc := 10) (kb := 0) (j := 0) (f := 4) F iW_X12 rfl rfl rfl (by decide) (tl q6_72) (fun _ h => h) rfl dX12_keepsAll_10 ?_
    refine a_iloadn (pc := 13) (j := 1) F dX12_keepsAll_13 rfl rfl ?_
    refine a_aloadn (pc := 14) (j := 0) F dX12_keepsAll_14 rfl rfl ?_
    refine a_get (pc := 15) (kb := 0) (j := 0) (f := 1) F iW_X12 rfl rfl rfl (by decide) (tl q6_69) (fun _ h => h) rfl dX12_keepsAll_15 ?_
    refine a_iloadn (pc := 18) (j := 1) F dX12_keepsAll_18 rfl rfl ?_
    obtain ⟨h2, hf⟩ := gd_some hf
    refine a_iald (pc := 19) (kb := 0) (j := 1) F rfl rfl h2 dX12_keepsAll_19 ?_
    obtain ⟨h3, hf⟩ := gd_some hf
    obtain ⟨u4, eu4, hf⟩ := nm_some hf
    refine a_iast (pc := 20) (kb := 0) (j := 4) (bs' := [bX12 y a0 u4]) F rfl rfl h3 (by rw [eu4]; rfl) dX12_keepsAll_20 ?_
    refine a_iinc (pc := 21) (j := 1) (v := (x1l.1 + 1)) (lv' := [(0, .ref (a0 0)), (1, .int (x1l.1 + 1))]) F [1, 0] dX12_keepsAll_21 rfl ki_1 (by decide) rfl ?_
    refine a_goto (pc := 24) (tgt := 2) F dX12_keepsAll_24 (by decide) ?_
    exact ih1 ((x1l.1 + 1), u4) hf

abbrev wX12_bringsBack : List Cond := Cond.code yX12_bringsBack cX12_bringsBack 2 none :: WALL
def m_X12_bringsBack (n : Nat) (v0 : St) : Option (St) :=
lp (fun (rc1 : Int32 × St → Option (St)) (x1l : Int32 × St) =>
(if 382 ≤ x1l.1 then
some x1l.2
else
(if ix x1l.1 382 then (if ix x1l.1 2080 then nm (su x1l.2 1 (x1l.1).toNatClampNeg (x1l.2 4 (x1l.1).toNatClampNeg)) (fun u4 =>
rc1 ((x1l.1 + 1), u4)) else none) else none))) n (0, v0)
set_option maxHeartbeats 4000000 in
set_option maxRecDepth 100000 in
theorem c_X12_bringsBack (l : Launch) (D : va_G) (y : Nat → ClassId) (ek : EK) (n : Nat) (a0 : Nat → Nat) (v0 : St) (res : St) (hf : m_X12_bringsBack n v0 = some res) : CV l yX12_bringsBack wX12_bringsBack { frames := 0, cells := 0, slots := 0, locals := 0 } D y ek [.ref (a0 0)] [bX12 y a0 v0] [bX12 y a0 res] 0 0 := by
  unfold m_X12_bringsBack at hf
  refine cv_of (cc := cX12_bringsBack) (maxL := 2) (by decide) rfl rfl (Nat.le_of_ble_eq_true rfl) ?_
  intro p e s m below meth c Q A F hret
  refine a_lv (lv' := [(0, .ref (a0 0))]) rfl ?_
  refine a_iconst (pc := 0) F dX12_bringsBack_0 kc_0 ?_
  refine a_istoren (pc := 1) (lv' := [(0, .ref (a0 0)), (1, .int 0)]) F [1, 0] dX12_bringsBack_1 rfl (by decide) rfl ?_
  refine a_loop 2 (fun (x1l : Int32 × St) => [(0, .ref (a0 0)), (1, .int x1l.1)]) (fun (x1l : Int32 × St) => [bX12 y a0 x1l.2]) (fun rc1 x1l ih1 hf => ?_) hf rfl rfl
  try dsimp only at hf ⊢
  refine a_iloadn (pc := 2) (j := 1) F dX12_bringsBack_2 rfl rfl ?_
  refine a_sipush (pc := 3) F dX12_bringsBack_3 ks_382 ?_
  refine a_icmp_ge (pc := 6) (tgt := 27) F dX12_bringsBack_6 (by decide) (fun h => ?_) (fun h => ?_)
  · replace hf := it_pos h hf
    obtain rfl := Option.some.inj hf
    exact hret _ _ _ _ (Nat.zero_le _) (Nat.zero_le _) dX12_bringsBack_27
  · replace hf := it_neg h hf
    refine a_aloadn (pc := 9) (j := 0) F dX12_bringsBack_9 rfl rfl ?_
    refine a_get (pc := 10) (kb := 0) (j := 0) (f := 1) F iW_X12 rfl rfl rfl (by decide) (tl q6_69) (fun _ h => h) rfl dX12_bringsBack_10 ?_
    refine a_iloadn (pc := 13) (j := 1) F dX12_bringsBack_13 rfl rfl ?_
    refine a_aloadn (pc := 14) (j := 0) F dX12_bringsBack_14 rfl rfl ?_
    refine a_get (pc := 15) (kb := 0) (j := 0) (f := 4) F iW_X12 rfl rfl rfl (by decide) (tl q6_72) (fun _ h => h) rfl dX12_bringsBack_15 ?_
    refine a_iloadn (pc := 18) (j := 1) F dX12_bringsBack_18 rfl rfl ?_
    obtain ⟨h2, hf⟩ := gd_some hf
    refine a_iald (pc := 19) (kb := 0) (j := 4) F rfl rfl h2 dX12_bringsBack_19 ?_
    obtain ⟨h3, hf⟩ := gd_some hf
    obtain ⟨u4, eu4, hf⟩ := nm_some hf
    refine a_iast (pc := 20) (kb := 0) (j := 1) (bs' := [bX12 y a0 u4]) F rfl rfl h3 (by rw [eu4]; rfl) dX12_bringsBack_20 ?_
    refine a_iinc (pc := 21) (j := 1) (v := (x1l.1 + 1)) (lv' := [(0, .ref (a0 0)), (1, .int (x1l.1 + 1))]) F [1, 0] dX12_bringsBack_21 rfl ki_1 (by decide) rfl ?_
    refine a_goto (pc := 24) (tgt := 2) F dX12_bringsBack_24 (by decide) ?_
    exact ih1 ((x1l.1 + 1), u4) hf

abbrev wX12_worstOf : List Cond := Cond.code yX12_worstOf cX12_worstOf 6 (some .int) :: WALL
def m_X12_worstOf (n : Nat) (v0 : St) (x1 : Int32) (x2 : Int32) : Option (Int32 × St) :=
bd (m_X12_keepsAll n v0) (fun t1 =>
bd (lp (fun (rc4 : Int32 × Int32 × St → Option (Int32 × St)) (x4l : Int32 × Int32 × St) =>
(if x1 ≤ x4l.2.1 then
some (x4l.1, x4l.2.2)
else
bd (m_X12_steals n x4l.2.2 x2) (fun t5 =>
bd ((if t5.1 = (-1) then
some x4l.1
else
bd (m_X12_ofThing n t5.2 t5.1 1) (fun t7 =>
some (x_max x4l.1 t7)))) (fun (t6 : Int32) =>
rc4 (t6, (x4l.2.1 + 1), t5.2))))) n ((-1), 0, t1)) (fun (t2 : Int32 × St) =>
bd (m_X12_bringsBack n t2.2) (fun t3 =>
some (t2.1, t3))))
set_option maxHeartbeats 4000000 in
set_option maxRecDepth 100000 in
theorem c_X12_worstOf (l : Launch) (D : va_G) (y : Nat → ClassId) (ek : EK) (n : Nat) (a0 : Nat → Nat) (v0 : St) (x1 : Int32) (x2 : Int32) (res : Int32 × St) (hf : m_X12_worstOf n v0 x1 x2 = some res) : CI l yX12_worstOf wX12_worstOf { frames := 12, cells := 0, slots := 0, locals := 274 } D y ek [.ref (a0 0), .int x1, .int x2] [bX12 y a0 v0] (res.1) [bX12 y a0 res.2] 0 0 := by
  unfold m_X12_worstOf at hf
  refine ci_of (cc := cX12_worstOf) (maxL := 6) (by decide) rfl rfl (Nat.le_of_ble_eq_true rfl) ?_
  intro p e s m below meth c Q A F hret
  refine a_lv (lv' := [(0, .ref (a0 0)), (1, .int x1), (2, .int x2)]) rfl ?_
  refine a_iconst (pc := 0) F dX12_worstOf_0 kc_m1 ?_
  refine a_istoren (pc := 1) (lv' := [(0, .ref (a0 0)), (1, .int x1), (2, .int x2), (3, .int (-1))]) F [1, 2, 3, 0] dX12_worstOf_1 rfl (by decide) rfl ?_
  refine a_aloadn (pc := 2) (j := 0) F dX12_worstOf_2 rfl rfl ?_
  obtain ⟨t1, ht1, hf⟩ := bd_some hf
  refine a_callVv (pc := 3) (bs' := [bX12 y a0 t1]) (kb := 0) (j := 0) F [0] (c_X12_keepsAll l D y ek n a0 _ _ ht1) (cwV 0 F.1.2.2.2.2 (gV q8_3 q8_5 qs_82 q1_11 q8_6) rfl rfl rfl (by decide +kernel) ⟨Nat.le_of_ble_eq_true rfl, Nat.le_of_ble_eq_true rfl⟩) rfl rfl rfl rfl (by decide) rfl rfl rfl rfl rfl rfl (Nat.le_of_ble_eq_true rfl) ⟨Nat.zero_le _, Nat.zero_le _⟩ dX12_worstOf_3 ?_
  refine a_iconst (pc := 6) F dX12_worstOf_6 kc_0 ?_
  refine a_istore (pc := 7) (lv' := [(0, .ref (a0 0)), (1, .int x1), (2, .int x2), (3, .int (-1)), (4, .int 0)]) F [1, 2, 3, 4, 0] dX12_worstOf_7 (by decide) rfl ?_
  refine a_join 50 (fun (t2 : Int32 × St) => [(0, .ref (a0 0)), (3, .int t2.1)]) (fun (t2 : Int32 × St) => []) (fun (t2 : Int32 × St) => [bX12 y a0 t2.2]) hf (fun t2 hf => ?_) (fun t2 hf J2 => ?_)
  · try dsimp only at hf ⊢
    refine a_aloadn (pc := 50) (j := 0) F dX12_worstOf_50 rfl rfl ?_
    obtain ⟨t3, ht3, hf⟩ := bd_some hf
    refine a_callVv (pc := 51) (bs' := [bX12 y a0 t3]) (kb := 0) (j := 0) F [0] (c_X12_bringsBack l D y ek n a0 _ _ ht3) (cwV 0 F.1.2.2.2.2 (gV q8_15 q8_17 qs_85 q1_11 q8_18) rfl rfl rfl (by decide +kernel) ⟨Nat.le_of_ble_eq_true rfl, Nat.le_of_ble_eq_true rfl⟩) rfl rfl rfl rfl (by decide) rfl rfl rfl rfl rfl rfl (Nat.le_of_ble_eq_true rfl) ⟨Nat.zero_le _, Nat.zero_le _⟩ dX12_worstOf_51 ?_
    refine a_iloadn (pc := 54) (j := 1) F dX12_worstOf_54 rfl rfl ?_
    obtain rfl := Option.some.inj hf
    exact hret _ _ _ _ (Nat.zero_le _) (Nat.zero_le _) rfl dX12_worstOf_55
  · refine a_loop 9 (fun (x4l : Int32 × Int32 × St) => [(0, .ref (a0 0)), (1, .int x1), (2, .int x2), (3, .int x4l.1), (4, .int x4l.2.1)]) (fun (x4l : Int32 × Int32 × St) => [bX12 y a0 x4l.2.2]) (fun rc4 x4l ih4 hf => ?_) hf rfl rfl
    try dsimp only at hf ⊢
    refine a_iload (pc := 9) (j := 4) F dX12_worstOf_9 rfl ?_
    refine a_iloadn (pc := 11) (j := 1) F dX12_worstOf_11 rfl rfl ?_
    refine a_icmp_ge (pc := 12) (tgt := 50) F dX12_worstOf_12 (by decide) (fun h => ?_) (fun h => ?_)
    · replace hf := it_pos h hf
      refine a_sub [0, 3] rfl ?_
      obtain rfl := Option.some.inj hf
      exact J2
    · replace hf := it_neg h hf
      refine a_aloadn (pc := 15) (j := 0) F dX12_worstOf_15 rfl rfl ?_
      refine a_iloadn (pc := 16) (j := 2) F dX12_worstOf_16 rfl rfl ?_
      obtain ⟨t5, ht5, hf⟩ := bd_some hf
      refine a_callV (pc := 17) (bs' := [bX12 y a0 t5.2]) (kb := 0) (j := 0) F [0] (c_X12_steals l D y ek n a0 _ _ _ ht5) (cwV 1 F.1.2.2.2.2 (gV q8_7 q8_9 qs_83 q1_11 q8_10) rfl rfl rfl (by decide +kernel) ⟨Nat.le_of_ble_eq_true rfl, Nat.le_of_ble_eq_true rfl⟩) rfl rfl rfl rfl (by decide) rfl rfl rfl rfl rfl rfl (Nat.le_of_ble_eq_true rfl) ⟨Nat.zero_le _, Nat.zero_le _⟩ dX12_worstOf_17 ?_
      refine a_istore (pc := 20) (lv' := [(0, .ref (a0 0)), (1, .int x1), (2, .int x2), (3, .int x4l.1), (4, .int x4l.2.1), (5, .int t5.1)]) F [1, 2, 3, 4, 5, 0] dX12_worstOf_20 (by decide) rfl ?_
      refine a_iload (pc := 22) (j := 5) F dX12_worstOf_22 rfl ?_
      refine a_iconst (pc := 24) F dX12_worstOf_24 kc_m1 ?_
      refine a_join 43 (fun (t6 : Int32) => [(0, .ref (a0 0)), (1, .int x1), (2, .int x2), (4, .int x4l.2.1)]) (fun (t6 : Int32) => [.int t6]) (fun (t6 : Int32) => [bX12 y a0 t5.2]) hf (fun t6 hf => ?_) (fun t6 hf J6 => ?_)
      · try dsimp only at hf ⊢
        refine a_istoren (pc := 43) (lv' := [(0, .ref (a0 0)), (1, .int x1), (2, .int x2), (3, .int t6), (4, .int x4l.2.1)]) F [1, 2, 3, 0, 4] dX12_worstOf_43 rfl (by decide) rfl ?_
        refine a_iinc (pc := 44) (j := 4) (v := (x4l.2.1 + 1)) (lv' := [(0, .ref (a0 0)), (1, .int x1), (2, .int x2), (3, .int t6), (4, .int (x4l.2.1 + 1))]) F [1, 2, 3, 4, 0] dX12_worstOf_44 rfl ki_1 (by decide) rfl ?_
        refine a_goto (pc := 47) (tgt := 9) F dX12_worstOf_47 (by decide) ?_
        exact ih4 (t6, (x4l.2.1 + 1), t5.2) hf
      · refine a_icmp_ne (pc := 25) (tgt := 32) F dX12_worstOf_25 (by decide) (fun h => ?_) (fun h => ?_)
        · replace hf := it_neg h hf
          refine a_iloadn (pc := 32) (j := 3) F dX12_worstOf_32 rfl rfl ?_
          refine a_aloadn (pc := 33) (j := 0) F dX12_worstOf_33 rfl rfl ?_
          refine a_iload (pc := 34) (j := 5) F dX12_worstOf_34 rfl ?_
          refine a_iconst (pc := 36) F dX12_worstOf_36 kc_1 ?_
          obtain ⟨t7, ht7, hf⟩ := bd_some hf
          refine a_callV (pc := 37) (bs' := [bX12 y a0 t5.2]) (kb := 0) (j := 0) F [0] (c_X12_ofThing l D y ek n a0 _ _ _ _ ht7) (cwV 2 F.1.2.2.2.2 (gV q7_100 q7_102 qs_59 q1_11 q7_103) rfl rfl rfl (by decide +kernel) ⟨Nat.le_of_ble_eq_true rfl, Nat.le_of_ble_eq_true rfl⟩) rfl rfl rfl rfl (by decide) rfl rfl rfl rfl rfl rfl (Nat.le_of_ble_eq_true rfl) ⟨Nat.zero_le _, Nat.zero_le _⟩ dX12_worstOf_37 ?_
          refine a_mmax (pc := 40) F (tl q7_120) (tl q2_173) (tl q1_22) (tl q_math_max) (Nat.le_of_ble_eq_true rfl) (Nat.le_of_ble_eq_true rfl) (Nat.zero_le _) (Nat.zero_le _) dX12_worstOf_40 ?_
          refine a_sub [0, 1, 2, 4] rfl ?_
          obtain rfl := Option.some.inj hf
          exact J6
        · replace hf := it_pos h hf
          refine a_iloadn (pc := 28) (j := 3) F dX12_worstOf_28 rfl rfl ?_
          refine a_goto (pc := 29) (tgt := 43) F dX12_worstOf_29 (by decide) ?_
          refine a_sub [0, 1, 2, 4] rfl ?_
          obtain rfl := Option.some.inj hf
          exact J6

abbrev wX12_thief : List Cond := Cond.code yX12_thief cX12_thief 1 (some .int) :: WALL
def m_X12_thief (n : Nat) (v0 : St) : Option (Int32 × St) :=
nm (su v0 0 0 0) (fun u1 =>
bd (m_X12_luredTo n u1 0) (fun t2 =>
some (t2.1, t2.2)))
set_option maxHeartbeats 4000000 in
set_option maxRecDepth 100000 in
theorem c_X12_thief (l : Launch) (D : va_G) (y : Nat → ClassId) (ek : EK) (n : Nat) (a0 : Nat → Nat) (v0 : St) (res : Int32 × St) (hf : m_X12_thief n v0 = some res) : CI l yX12_thief wX12_thief { frames := 11, cells := 0, slots := 0, locals := 251 } D y ek [.ref (a0 0)] [bX12 y a0 v0] (res.1) [bX12 y a0 res.2] 0 0 := by
  unfold m_X12_thief at hf
  refine ci_of (cc := cX12_thief) (maxL := 1) (by decide) rfl rfl (Nat.le_of_ble_eq_true rfl) ?_
  intro p e s m below meth c Q A F hret
  refine a_lv (lv' := [(0, .ref (a0 0))]) rfl ?_
  refine a_aloadn (pc := 0) (j := 0) F dX12_thief_0 rfl rfl ?_
  refine a_iconst (pc := 1) F dX12_thief_1 kc_0 ?_
  obtain ⟨u1, eu1, hf⟩ := nm_some hf
  refine a_put (pc := 2) (kb := 0) (j := 0) (f := 0) (ty := .int) (bs' := [bX12 y a0 u1]) F iW_X12 rfl rfl rfl (by decide) (tl q6_68) (fun _ h => h) tyX12 tyX12_ok nmX12 rfl rfl rfl rfl (Nat.le_of_ble_eq_true rfl) (by rw [eu1]; rfl) dX12_thief_2 ?_
  refine a_aloadn (pc := 5) (j := 0) F dX12_thief_5 rfl rfl ?_
  refine a_iconst (pc := 6) F dX12_thief_6 kc_0 ?_
  obtain ⟨t2, ht2, hf⟩ := bd_some hf
  refine a_callV (pc := 7) (bs' := [bX12 y a0 t2.2]) (kb := 0) (j := 0) F [0] (c_X12_luredTo l D y ek n a0 _ _ _ ht2) (cwV 1 F.1.2.2.2.2 (gV q7_235 q7_237 qs_81 q1_11 q7_238) rfl rfl rfl (by decide +kernel) ⟨Nat.le_of_ble_eq_true rfl, Nat.le_of_ble_eq_true rfl⟩) rfl rfl rfl rfl (by decide) rfl rfl rfl rfl rfl rfl (Nat.le_of_ble_eq_true rfl) ⟨Nat.zero_le _, Nat.zero_le _⟩ dX12_thief_7 ?_
  obtain rfl := Option.some.inj hf
  exact hret _ _ _ _ (Nat.zero_le _) (Nat.zero_le _) rfl dX12_thief_10

abbrev wX12_loot : List Cond := Cond.code yX12_loot cX12_loot 5 (some .int) :: WALL
def m_X12_loot (n : Nat) (v0 : St) (x1 : Int32) : Option (Int32 × St) :=
nm (su v0 0 0 0) (fun u1 =>
bd (m_X12_in n x1 0 10) (fun t2 =>
bd ((if t2 = 0 then
some 1
else
some 0)) (fun (t3 : Int32) =>
bd (m_X12_throwsIf n u1 t3 1) (fun t4 =>
(if t4.1 = 0 then
bd (m_X12_keepsAll n t4.2) (fun t5 =>
bd (lp (fun (rc8 : Int32 × Int32 × St → Option (Int32 × St)) (x8l : Int32 × Int32 × St) =>
(if x1 ≤ x8l.2.1 then
some (x8l.1, x8l.2.2)
else
bd (m_X12_steals n x8l.2.2 0) (fun t9 =>
bd ((if t9.1 = (-1) then
some 0
else
bd (m_X12_ofThing n t9.2 t9.1 1) (fun t12 =>
some t12))) (fun (t10 : Int32) =>
nm (x8l.1 + t10) (fun x2_11 =>
rc8 (x2_11, (x8l.2.1 + 1), t9.2)))))) n (0, 0, t5)) (fun (t6 : Int32 × St) =>
bd (m_X12_bringsBack n t6.2) (fun t7 =>
some (t6.1, t7))))
else
some (0, t4.2))))))
set_option maxHeartbeats 4000000 in
set_option maxRecDepth 100000 in
theorem c_X12_loot (l : Launch) (D : va_G) (y : Nat → ClassId) (ek : EK) (n : Nat) (a0 : Nat → Nat) (v0 : St) (x1 : Int32) (res : Int32 × St) (hf : m_X12_loot n v0 x1 = some res) : CI l yX12_loot wX12_loot { frames := 12, cells := 0, slots := 0, locals := 274 } D y ek [.ref (a0 0), .int x1] [bX12 y a0 v0] (res.1) [bX12 y a0 res.2] 0 0 := by
  unfold m_X12_loot at hf
  refine ci_of (cc := cX12_loot) (maxL := 5) (by decide) rfl rfl (Nat.le_of_ble_eq_true rfl) ?_
  intro p e s m below meth c Q A F hret
  refine a_lv (lv' := [(0, .ref (a0 0)), (1, .int x1)]) rfl ?_
  refine a_aloadn (pc := 0) (j := 0) F dX12_loot_0 rfl rfl ?_
  refine a_iconst (pc := 1) F dX12_loot_1 kc_0 ?_
  obtain ⟨u1, eu1, hf⟩ := nm_some hf
  refine a_put (pc := 2) (kb := 0) (j := 0) (f := 0) (ty := .int) (bs' := [bX12 y a0 u1]) F iW_X12 rfl rfl rfl (by decide) (tl q6_68) (fun _ h => h) tyX12 tyX12_ok nmX12 rfl rfl rfl rfl (Nat.le_of_ble_eq_true rfl) (by rw [eu1]; rfl) dX12_loot_2 ?_
  refine a_aloadn (pc := 5) (j := 0) F dX12_loot_5 rfl rfl ?_
  refine a_iloadn (pc := 6) (j := 1) F dX12_loot_6 rfl rfl ?_
  refine a_iconst (pc := 7) F dX12_loot_7 kc_0 ?_
  refine a_bipush (pc := 8) F dX12_loot_8 kb_10 ?_
  obtain ⟨t2, ht2, hf⟩ := bd_some hf
  refine a_callS (pc := 10) (bs' := [bX12 y a0 u1]) F [] (c_X12_in l D y ek n  _ _ _ _ ht2) (va_cwS 3 F.1.2.2.2.2 (gS q7_77 q7_78 q1_11 q7_79) rfl rfl rfl (by decide +kernel) ⟨Nat.le_of_ble_eq_true rfl, Nat.le_of_ble_eq_true rfl⟩) (by decide) rfl rfl rfl rfl rfl rfl (Nat.le_of_ble_eq_true rfl) ⟨Nat.zero_le _, Nat.zero_le _⟩ dX12_loot_10 ?_
  refine a_join 21 (fun (t3 : Int32) => [(0, .ref (a0 0)), (1, .int x1)]) (fun (t3 : Int32) => [.int t3, .ref (a0 0)]) (fun (t3 : Int32) => [bX12 y a0 u1]) hf (fun t3 hf => ?_) (fun t3 hf J3 => ?_)
  · try dsimp only at hf ⊢
    refine a_iconst (pc := 21) F dX12_loot_21 kc_1 ?_
    obtain ⟨t4, ht4, hf⟩ := bd_some hf
    refine a_callV (pc := 22) (bs' := [bX12 y a0 t4.2]) (kb := 0) (j := 0) F [0] (c_X12_throwsIf l D y ek n a0 _ _ _ _ ht4) (cwV 2 F.1.2.2.2.2 (gV q7_61 q7_63 qs_52 q1_11 q7_64) rfl rfl rfl (by decide +kernel) ⟨Nat.le_of_ble_eq_true rfl, Nat.le_of_ble_eq_true rfl⟩) rfl rfl rfl rfl (by decide) rfl rfl rfl rfl rfl rfl (Nat.le_of_ble_eq_true rfl) ⟨Nat.zero_le _, Nat.zero_le _⟩ dX12_loot_22 ?_
    refine a_if_eq (pc := 25) (tgt := 30) F dX12_loot_25 (by decide) (fun h => ?_) (fun h => ?_)
    · replace hf := it_pos h hf
      refine a_iconst (pc := 30) F dX12_loot_30 kc_0 ?_
      refine a_istoren (pc := 31) (lv' := [(0, .ref (a0 0)), (1, .int x1), (2, .int 0)]) F [1, 2, 0] dX12_loot_31 rfl (by decide) rfl ?_
      refine a_aloadn (pc := 32) (j := 0) F dX12_loot_32 rfl rfl ?_
      obtain ⟨t5, ht5, hf⟩ := bd_some hf
      refine a_callVv (pc := 33) (bs' := [bX12 y a0 t5]) (kb := 0) (j := 0) F [0] (c_X12_keepsAll l D y ek n a0 _ _ ht5) (cwV 0 F.1.2.2.2.2 (gV q8_3 q8_5 qs_82 q1_11 q8_6) rfl rfl rfl (by decide +kernel) ⟨Nat.le_of_ble_eq_true rfl, Nat.le_of_ble_eq_true rfl⟩) rfl rfl rfl rfl (by decide) rfl rfl rfl rfl rfl rfl (Nat.le_of_ble_eq_true rfl) ⟨Nat.zero_le _, Nat.zero_le _⟩ dX12_loot_33 ?_
      refine a_iconst (pc := 36) F dX12_loot_36 kc_0 ?_
      refine a_istoren (pc := 37) (lv' := [(0, .ref (a0 0)), (1, .int x1), (2, .int 0), (3, .int 0)]) F [1, 2, 3, 0] dX12_loot_37 rfl (by decide) rfl ?_
      refine a_join 76 (fun (t6 : Int32 × St) => [(0, .ref (a0 0)), (2, .int t6.1)]) (fun (t6 : Int32 × St) => []) (fun (t6 : Int32 × St) => [bX12 y a0 t6.2]) hf (fun t6 hf => ?_) (fun t6 hf J6 => ?_)
      · try dsimp only at hf ⊢
        refine a_aloadn (pc := 76) (j := 0) F dX12_loot_76 rfl rfl ?_
        obtain ⟨t7, ht7, hf⟩ := bd_some hf
        refine a_callVv (pc := 77) (bs' := [bX12 y a0 t7]) (kb := 0) (j := 0) F [0] (c_X12_bringsBack l D y ek n a0 _ _ ht7) (cwV 0 F.1.2.2.2.2 (gV q8_15 q8_17 qs_85 q1_11 q8_18) rfl rfl rfl (by decide +kernel) ⟨Nat.le_of_ble_eq_true rfl, Nat.le_of_ble_eq_true rfl⟩) rfl rfl rfl rfl (by decide) rfl rfl rfl rfl rfl rfl (Nat.le_of_ble_eq_true rfl) ⟨Nat.zero_le _, Nat.zero_le _⟩ dX12_loot_77 ?_
        refine a_iloadn (pc := 80) (j := 1) F dX12_loot_80 rfl rfl ?_
        obtain rfl := Option.some.inj hf
        exact hret _ _ _ _ (Nat.zero_le _) (Nat.zero_le _) rfl dX12_loot_81
      · refine a_loop 38 (fun (x8l : Int32 × Int32 × St) => [(0, .ref (a0 0)), (1, .int x1), (2, .int x8l.1), (3, .int x8l.2.1)]) (fun (x8l : Int32 × Int32 × St) => [bX12 y a0 x8l.2.2]) (fun rc8 x8l ih8 hf => ?_) hf rfl rfl
        try dsimp only at hf ⊢
        refine a_iloadn (pc := 38) (j := 3) F dX12_loot_38 rfl rfl ?_
        refine a_iloadn (pc := 39) (j := 1) F dX12_loot_39 rfl rfl ?_
        refine a_icmp_ge (pc := 40) (tgt := 76) F dX12_loot_40 (by decide) (fun h => ?_) (fun h => ?_)
        · replace hf := it_pos h hf
          refine a_sub [0, 2] rfl ?_
          obtain rfl := Option.some.inj hf
          exact J6
        · replace hf := it_neg h hf
          refine a_aloadn (pc := 43) (j := 0) F dX12_loot_43 rfl rfl ?_
          refine a_iconst (pc := 44) F dX12_loot_44 kc_0 ?_
          obtain ⟨t9, ht9, hf⟩ := bd_some hf
          refine a_callV (pc := 45) (bs' := [bX12 y a0 t9.2]) (kb := 0) (j := 0) F [0] (c_X12_steals l D y ek n a0 _ _ _ ht9) (cwV 1 F.1.2.2.2.2 (gV q8_7 q8_9 qs_83 q1_11 q8_10) rfl rfl rfl (by decide +kernel) ⟨Nat.le_of_ble_eq_true rfl, Nat.le_of_ble_eq_true rfl⟩) rfl rfl rfl rfl (by decide) rfl rfl rfl rfl rfl rfl (Nat.le_of_ble_eq_true rfl) ⟨Nat.zero_le _, Nat.zero_le _⟩ dX12_loot_45 ?_
          refine a_istore (pc := 48) (lv' := [(0, .ref (a0 0)), (1, .int x1), (2, .int x8l.1), (3, .int x8l.2.1), (4, .int t9.1)]) F [1, 2, 3, 4, 0] dX12_loot_48 (by decide) rfl ?_
          refine a_iloadn (pc := 50) (j := 2) F dX12_loot_50 rfl rfl ?_
          refine a_iload (pc := 51) (j := 4) F dX12_loot_51 rfl ?_
          refine a_iconst (pc := 53) F dX12_loot_53 kc_m1 ?_
          refine a_join 68 (fun (t10 : Int32) => [(0, .ref (a0 0)), (1, .int x1), (3, .int x8l.2.1)]) (fun (t10 : Int32) => [.int t10, .int x8l.1]) (fun (t10 : Int32) => [bX12 y a0 t9.2]) hf (fun t10 hf => ?_) (fun t10 hf J10 => ?_)
          · try dsimp only at hf ⊢
            refine a_iadd (pc := 68) F dX12_loot_68 ?_
            obtain ⟨x2_11, ex2_11, hf⟩ := nm_some hf
            refine a_nmi ex2_11 ?_
            refine a_istoren (pc := 69) (lv' := [(0, .ref (a0 0)), (1, .int x1), (2, .int x2_11), (3, .int x8l.2.1)]) F [1, 2, 0, 3] dX12_loot_69 rfl (by decide) rfl ?_
            refine a_iinc (pc := 70) (j := 3) (v := (x8l.2.1 + 1)) (lv' := [(0, .ref (a0 0)), (1, .int x1), (2, .int x2_11), (3, .int (x8l.2.1 + 1))]) F [1, 2, 3, 0] dX12_loot_70 rfl ki_1 (by decide) rfl ?_
            refine a_goto (pc := 73) (tgt := 38) F dX12_loot_73 (by decide) ?_
            exact ih8 (x2_11, (x8l.2.1 + 1), t9.2) hf
          · refine a_icmp_ne (pc := 54) (tgt := 61) F dX12_loot_54 (by decide) (fun h => ?_) (fun h => ?_)
            · replace hf := it_neg h hf
              refine a_aloadn (pc := 61) (j := 0) F dX12_loot_61 rfl rfl ?_
              refine a_iload (pc := 62) (j := 4) F dX12_loot_62 rfl ?_
              refine a_iconst (pc := 64) F dX12_loot_64 kc_1 ?_
              obtain ⟨t12, ht12, hf⟩ := bd_some hf
              refine a_callV (pc := 65) (bs' := [bX12 y a0 t9.2]) (kb := 0) (j := 0) F [0] (c_X12_ofThing l D y ek n a0 _ _ _ _ ht12) (cwV 2 F.1.2.2.2.2 (gV q7_100 q7_102 qs_59 q1_11 q7_103) rfl rfl rfl (by decide +kernel) ⟨Nat.le_of_ble_eq_true rfl, Nat.le_of_ble_eq_true rfl⟩) rfl rfl rfl rfl (by decide) rfl rfl rfl rfl rfl rfl (Nat.le_of_ble_eq_true rfl) ⟨Nat.zero_le _, Nat.zero_le _⟩ dX12_loot_65 ?_
              refine a_sub [0, 1, 3] rfl ?_
              obtain rfl := Option.some.inj hf
              exact J10
            · replace hf := it_pos h hf
              refine a_iconst (pc := 57) F dX12_loot_57 kc_0 ?_
              refine a_goto (pc := 58) (tgt := 68) F dX12_loot_58 (by decide) ?_
              refine a_sub [0, 1, 3] rfl ?_
              obtain rfl := Option.some.inj hf
              exact J10
    · replace hf := it_neg h hf
      refine a_iconst (pc := 28) F dX12_loot_28 kc_0 ?_
      obtain rfl := Option.some.inj hf
      exact hret _ _ _ _ (Nat.zero_le _) (Nat.zero_le _) rfl dX12_loot_29
  · refine a_if_ne (pc := 13) (tgt := 20) F dX12_loot_13 (by decide) (fun h => ?_) (fun h => ?_)
    · replace hf := it_neg h hf
      refine a_iconst (pc := 20) F dX12_loot_20 kc_0 ?_
      obtain rfl := Option.some.inj hf
      exact J3
    · replace hf := it_pos h hf
      refine a_iconst (pc := 16) F dX12_loot_16 kc_1 ?_
      refine a_goto (pc := 17) (tgt := 21) F dX12_loot_17 (by decide) ?_
      obtain rfl := Option.some.inj hf
      exact J3

abbrev wX12_guards : List Cond := Cond.code yX12_guards cX12_guards 6 (some .int) :: WALL
def m_X12_guards (n : Nat) (v0 : St) (x1 : Int32) (x2 : Int32) : Option (Int32 × St) :=
nm (su v0 0 0 0) (fun u1 =>
bd (m_X12_in n x1 0 8) (fun t2 =>
bd (jn (fun (t11 : Unit) =>
some 1) (fun (K11 : Unit → Option (Int32)) =>
(if t2 = 0 then
K11 ()
else
bd (m_X12_in n x2 0 99) (fun t12 =>
(if t12 = 0 then
K11 ()
else
some 0))))) (fun (t3 : Int32) =>
bd (m_X12_throwsIf n u1 t3 1) (fun t4 =>
(if t4.1 = 0 then
lp (fun (rc5 : Int32 × Int32 × Int32 × St → Option (Int32 × St)) (x5l : Int32 × Int32 × Int32 × St) =>
bd (m_X12_houses n x5l.2.2.2) (fun t6 =>
(if (x_shl 1 t6) ≤ x5l.2.2.1 then
some (x5l.1, x5l.2.2.2)
else
bd (m_J6_bitCount_0f7a4 n x5l.2.2.1) (fun t7 =>
bd ((if x5l.2.1 ≤ t7 then
some (x5l.1, x5l.2.1, x5l.2.2.2)
else
bd (m_X12_worstOf n x5l.2.2.2 x1 x5l.2.2.1) (fun t9 =>
(if t9.1 ≤ x2 then
bd (m_J6_bitCount_0f7a4 n x5l.2.2.1) (fun t10 =>
some (x5l.2.2.1, t10, t9.2))
else
some (x5l.1, x5l.2.1, t9.2))))) (fun (t8 : Int32 × Int32 × St) =>
rc5 (t8.1, t8.2.1, (x5l.2.2.1 + 1), t8.2.2)))))) n ((-1), 4, 0, t4.2)
else
some (0, t4.2))))))
set_option maxHeartbeats 4000000 in
set_option maxRecDepth 100000 in
theorem c_X12_guards (l : Launch) (D : va_G) (y : Nat → ClassId) (ek : EK) (n : Nat) (a0 : Nat → Nat) (v0 : St) (x1 : Int32) (x2 : Int32) (res : Int32 × St) (hf : m_X12_guards n v0 x1 x2 = some res) : CI l yX12_guards wX12_guards { frames := 13, cells := 0, slots := 0, locals := 299 } D y ek [.ref (a0 0), .int x1, .int x2] [bX12 y a0 v0] (res.1) [bX12 y a0 res.2] 0 0 := by
  unfold m_X12_guards at hf
  refine ci_of (cc := cX12_guards) (maxL := 6) (by decide) rfl rfl (Nat.le_of_ble_eq_true rfl) ?_
  intro p e s m below meth c Q A F hret
  refine a_lv (lv' := [(0, .ref (a0 0)), (1, .int x1), (2, .int x2)]) rfl ?_
  refine a_aloadn (pc := 0) (j := 0) F dX12_guards_0 rfl rfl ?_
  refine a_iconst (pc := 1) F dX12_guards_1 kc_0 ?_
  obtain ⟨u1, eu1, hf⟩ := nm_some hf
  refine a_put (pc := 2) (kb := 0) (j := 0) (f := 0) (ty := .int) (bs' := [bX12 y a0 u1]) F iW_X12 rfl rfl rfl (by decide) (tl q6_68) (fun _ h => h) tyX12 tyX12_ok nmX12 rfl rfl rfl rfl (Nat.le_of_ble_eq_true rfl) (by rw [eu1]; rfl) dX12_guards_2 ?_
  refine a_aloadn (pc := 5) (j := 0) F dX12_guards_5 rfl rfl ?_
  refine a_iloadn (pc := 6) (j := 1) F dX12_guards_6 rfl rfl ?_
  refine a_iconst (pc := 7) F dX12_guards_7 kc_0 ?_
  refine a_bipush (pc := 8) F dX12_guards_8 kb_8 ?_
  obtain ⟨t2, ht2, hf⟩ := bd_some hf
  refine a_callS (pc := 10) (bs' := [bX12 y a0 u1]) F [] (c_X12_in l D y ek n  _ _ _ _ ht2) (va_cwS 3 F.1.2.2.2.2 (gS q7_77 q7_78 q1_11 q7_79) rfl rfl rfl (by decide +kernel) ⟨Nat.le_of_ble_eq_true rfl, Nat.le_of_ble_eq_true rfl⟩) (by decide) rfl rfl rfl rfl rfl rfl (Nat.le_of_ble_eq_true rfl) ⟨Nat.zero_le _, Nat.zero_le _⟩ dX12_guards_10 ?_
  refine a_join 31 (fun (t3 : Int32) => [(0, .ref (a0 0)), (1, .int x1), (2, .int x2)]) (fun (t3 : Int32) => [.int t3, .ref (a0 0)]) (fun (t3 : Int32) => [bX12 y a0 u1]) hf (fun t3 hf => ?_) (fun t3 hf J3 => ?_)
  · try dsimp only at hf ⊢
    refine a_iconst (pc := 31) F dX12_guards_31 kc_1 ?_
    obtain ⟨t4, ht4, hf⟩ := bd_some hf
    refine a_callV (pc := 32) (bs' := [bX12 y a0 t4.2]) (kb := 0) (j := 0) F [0] (c_X12_throwsIf l D y ek n a0 _ _ _ _ ht4) (cwV 2 F.1.2.2.2.2 (gV q7_61 q7_63 qs_52 q1_11 q7_64) rfl rfl rfl (by decide +kernel) ⟨Nat.le_of_ble_eq_true rfl, Nat.le_of_ble_eq_true rfl⟩) rfl rfl rfl rfl (by decide) rfl rfl rfl rfl rfl rfl (Nat.le_of_ble_eq_true rfl) ⟨Nat.zero_le _, Nat.zero_le _⟩ dX12_guards_32 ?_
    refine a_if_eq (pc := 35) (tgt := 40) F dX12_guards_35 (by decide) (fun h => ?_) (fun h => ?_)
    · replace hf := it_pos h hf
      refine a_iconst (pc := 40) F dX12_guards_40 kc_m1 ?_
      refine a_istoren (pc := 41) (lv' := [(0, .ref (a0 0)), (1, .int x1), (2, .int x2), (3, .int (-1))]) F [1, 2, 3, 0] dX12_guards_41 rfl (by decide) rfl ?_
      refine a_iconst (pc := 42) F dX12_guards_42 kc_4 ?_
      refine a_istore (pc := 43) (lv' := [(0, .ref (a0 0)), (1, .int x1), (2, .int x2), (3, .int (-1)), (4, .int 4)]) F [1, 2, 3, 4, 0] dX12_guards_43 (by decide) rfl ?_
      refine a_iconst (pc := 45) F dX12_guards_45 kc_0 ?_
      refine a_istore (pc := 46) (lv' := [(0, .ref (a0 0)), (1, .int x1), (2, .int x2), (3, .int (-1)), (4, .int 4), (5, .int 0)]) F [1, 2, 3, 4, 5, 0] dX12_guards_46 (by decide) rfl ?_
      refine a_loop 48 (fun (x5l : Int32 × Int32 × Int32 × St) => [(0, .ref (a0 0)), (1, .int x1), (2, .int x2), (3, .int x5l.1), (4, .int x5l.2.1), (5, .int x5l.2.2.1)]) (fun (x5l : Int32 × Int32 × Int32 × St) => [bX12 y a0 x5l.2.2.2]) (fun rc5 x5l ih5 hf => ?_) hf rfl rfl
      try dsimp only at hf ⊢
      refine a_iload (pc := 48) (j := 5) F dX12_guards_48 rfl ?_
      refine a_iconst (pc := 50) F dX12_guards_50 kc_1 ?_
      refine a_aloadn (pc := 51) (j := 0) F dX12_guards_51 rfl rfl ?_
      obtain ⟨t6, ht6, hf⟩ := bd_some hf
      refine a_callV (pc := 52) (bs' := [bX12 y a0 x5l.2.2.2]) (kb := 0) (j := 0) F [0] (c_X12_houses l D y ek n a0 _ _ ht6) (cwV 0 F.1.2.2.2.2 (gV q6_220 q6_222 qs_38 q1_11 q6_223) rfl rfl rfl (by decide +kernel) ⟨Nat.le_of_ble_eq_true rfl, Nat.le_of_ble_eq_true rfl⟩) rfl rfl rfl rfl (by decide) rfl rfl rfl rfl rfl rfl (Nat.le_of_ble_eq_true rfl) ⟨Nat.zero_le _, Nat.zero_le _⟩ dX12_guards_52 ?_
      refine a_ishl (pc := 55) F dX12_guards_55 ?_
      refine a_icmp_ge (pc := 56) (tgt := 99) F dX12_guards_56 (by decide) (fun h => ?_) (fun h => ?_)
      · replace hf := it_pos h hf
        refine a_iloadn (pc := 99) (j := 3) F dX12_guards_99 rfl rfl ?_
        obtain rfl := Option.some.inj hf
        exact hret _ _ _ _ (Nat.zero_le _) (Nat.zero_le _) rfl dX12_guards_100
      · replace hf := it_neg h hf
        refine a_iload (pc := 59) (j := 5) F dX12_guards_59 rfl ?_
        obtain ⟨t7, ht7, hf⟩ := bd_some hf
        refine a_callS (pc := 61) (bs' := [bX12 y a0 x5l.2.2.2]) F [] (c_J6_bitCount_0f7a4 l D y ek n  _ _ ht7) (va_cwS 1 F.1.2.2.2.2 (gS q8_23 q5_100 q1_26 q5_101) rfl rfl rfl (by decide +kernel) ⟨Nat.le_of_ble_eq_true rfl, Nat.le_of_ble_eq_true rfl⟩) (by decide) rfl rfl rfl rfl rfl rfl (Nat.le_of_ble_eq_true rfl) ⟨Nat.zero_le _, Nat.zero_le _⟩ dX12_guards_61 ?_
        refine a_iload (pc := 64) (j := 4) F dX12_guards_64 rfl ?_
        refine a_join 93 (fun (t8 : Int32 × Int32 × St) => [(0, .ref (a0 0)), (1, .int x1), (2, .int x2), (3, .int t8.1), (4, .int t8.2.1), (5, .int x5l.2.2.1)]) (fun (t8 : Int32 × Int32 × St) => []) (fun (t8 : Int32 × Int32 × St) => [bX12 y a0 t8.2.2]) hf (fun t8 hf => ?_) (fun t8 hf J8 => ?_)
        · try dsimp only at hf ⊢
          refine a_iinc (pc := 93) (j := 5) (v := (x5l.2.2.1 + 1)) (lv' := [(0, .ref (a0 0)), (1, .int x1), (2, .int x2), (3, .int t8.1), (4, .int t8.2.1), (5, .int (x5l.2.2.1 + 1))]) F [1, 2, 3, 4, 5, 0] dX12_guards_93 rfl ki_1 (by decide) rfl ?_
          refine a_goto (pc := 96) (tgt := 48) F dX12_guards_96 (by decide) ?_
          exact ih5 (t8.1, t8.2.1, (x5l.2.2.1 + 1), t8.2.2) hf
        · refine a_icmp_ge (pc := 66) (tgt := 93) F dX12_guards_66 (by decide) (fun h => ?_) (fun h => ?_)
          · replace hf := it_pos h hf
            obtain rfl := Option.some.inj hf
            exact J8
          · replace hf := it_neg h hf
            refine a_aloadn (pc := 69) (j := 0) F dX12_guards_69 rfl rfl ?_
            refine a_iloadn (pc := 70) (j := 1) F dX12_guards_70 rfl rfl ?_
            refine a_iload (pc := 71) (j := 5) F dX12_guards_71 rfl ?_
            obtain ⟨t9, ht9, hf⟩ := bd_some hf
            refine a_callV (pc := 73) (bs' := [bX12 y a0 t9.2]) (kb := 0) (j := 0) F [0] (c_X12_worstOf l D y ek n a0 _ _ _ _ ht9) (cwV 2 F.1.2.2.2.2 (gV q8_24 q8_26 qs_86 q1_11 q8_27) rfl rfl rfl (by decide +kernel) ⟨Nat.le_of_ble_eq_true rfl, Nat.le_of_ble_eq_true rfl⟩) rfl rfl rfl rfl (by decide) rfl rfl rfl rfl rfl rfl (Nat.le_of_ble_eq_true rfl) ⟨Nat.zero_le _, Nat.zero_le _⟩ dX12_guards_73 ?_
            refine a_iloadn (pc := 76) (j := 2) F dX12_guards_76 rfl rfl ?_
            refine a_icmp_le (pc := 77) (tgt := 83) F dX12_guards_77 (by decide) (fun h => ?_) (fun h => ?_)
            · replace hf := it_pos h hf
              refine a_iload (pc := 83) (j := 5) F dX12_guards_83 rfl ?_
              refine a_istoren (pc := 85) (lv' := [(0, .ref (a0 0)), (1, .int x1), (2, .int x2), (3, .int x5l.2.2.1), (4, .int x5l.2.1), (5, .int x5l.2.2.1)]) F [1, 2, 3, 0, 4, 5] dX12_guards_85 rfl (by decide) rfl ?_
              refine a_iload (pc := 86) (j := 5) F dX12_guards_86 rfl ?_
              obtain ⟨t10, ht10, hf⟩ := bd_some hf
              refine a_callS (pc := 88) (bs' := [bX12 y a0 t9.2]) F [] (c_J6_bitCount_0f7a4 l D y ek n  _ _ ht10) (va_cwS 1 F.1.2.2.2.2 (gS q8_23 q5_100 q1_26 q5_101) rfl rfl rfl (by decide +kernel) ⟨Nat.le_of_ble_eq_true rfl, Nat.le_of_ble_eq_true rfl⟩) (by decide) rfl rfl rfl rfl rfl rfl (Nat.le_of_ble_eq_true rfl) ⟨Nat.zero_le _, Nat.zero_le _⟩ dX12_guards_88 ?_
              refine a_istore (pc := 91) (lv' := [(0, .ref (a0 0)), (1, .int x1), (2, .int x2), (3, .int x5l.2.2.1), (4, .int t10), (5, .int x5l.2.2.1)]) F [1, 2, 3, 4, 0, 5] dX12_guards_91 (by decide) rfl ?_
              obtain rfl := Option.some.inj hf
              exact J8
            · replace hf := it_neg h hf
              refine a_goto (pc := 80) (tgt := 93) F dX12_guards_80 (by decide) ?_
              obtain rfl := Option.some.inj hf
              exact J8
    · replace hf := it_neg h hf
      refine a_iconst (pc := 38) F dX12_guards_38 kc_0 ?_
      obtain rfl := Option.some.inj hf
      exact hret _ _ _ _ (Nat.zero_le _) (Nat.zero_le _) rfl dX12_guards_39
  · refine a_jn 26 (fun (t11 : Unit) => [(0, .ref (a0 0)), (1, .int x1), (2, .int x2)]) (fun (t11 : Unit) => [.ref (a0 0)]) (fun (t11 : Unit) => [bX12 y a0 u1]) hf (fun t11 hf => ?_) (fun K11 hK11 hf => ?_)
    · try dsimp only at hf ⊢
      refine a_iconst (pc := 26) F dX12_guards_26 kc_1 ?_
      refine a_goto (pc := 27) (tgt := 31) F dX12_guards_27 (by decide) ?_
      obtain rfl := Option.some.inj hf
      exact J3
    · try dsimp only at hf
      refine a_if_eq (pc := 13) (tgt := 26) F dX12_guards_13 (by decide) (fun h => ?_) (fun h => ?_)
      · replace hf := it_pos h hf
        exact hK11 () hf
      · replace hf := it_neg h hf
        refine a_iloadn (pc := 16) (j := 2) F dX12_guards_16 rfl rfl ?_
        refine a_iconst (pc := 17) F dX12_guards_17 kc_0 ?_
        refine a_bipush (pc := 18) F dX12_guards_18 kb_99 ?_
        obtain ⟨t12, ht12, hf⟩ := bd_some hf
        refine a_callS (pc := 20) (bs' := [bX12 y a0 u1]) F [] (c_X12_in l D y ek n  _ _ _ _ ht12) (va_cwS 3 F.1.2.2.2.2 (gS q7_77 q7_78 q1_11 q7_79) rfl rfl rfl (by decide +kernel) ⟨Nat.le_of_ble_eq_true rfl, Nat.le_of_ble_eq_true rfl⟩) (by decide) rfl rfl rfl rfl rfl rfl (Nat.le_of_ble_eq_true rfl) ⟨Nat.zero_le _, Nat.zero_le _⟩ dX12_guards_20 ?_
        refine a_if_ne (pc := 23) (tgt := 30) F dX12_guards_23 (by decide) (fun h => ?_) (fun h => ?_)
        · replace hf := it_neg h hf
          refine a_iconst (pc := 30) F dX12_guards_30 kc_0 ?_
          obtain rfl := Option.some.inj hf
          exact J3
        · replace hf := it_pos h hf
          exact hK11 () hf

abbrev wX12_snowsAndSteals : List Cond := Cond.code yX12_snowsAndSteals cX12_snowsAndSteals 4 none :: WALL
def m_X12_snowsAndSteals (n : Nat) (v0 : St) (x1 : Int32) : Option (St) :=
(if x1 = 0 then
bd (m_X12_drawn n v0 100) (fun t1 =>
(if t1.1 < (t1.2 1 8) then
bd (m_X12_luredTo n t1.2 0) (fun t2 =>
bd (m_X12_steals n t2.2 0) (fun t3 =>
(if t3.1 = (-1) then
some t3.2
else
bd (m_X12_tells n t3.2 t3.1 t2.1 (-1) 1) (fun t4 =>
some t4))))
else
some t1.2))
else
bd (m_X12_drawn n v0 100) (fun t5 =>
(if (t5.2 1 7) ≤ t5.1 then
nm (su t5.2 1 5 ((t5.2 1 5) / 2)) (fun u6 =>
some u6)
else
bd (m_X12_drawn n t5.2 10) (fun t7 =>
nm (su t7.2 1 5 (x_min 99 ((t5.2 1 5) + t7.1))) (fun u8 =>
some u8)))))
set_option maxHeartbeats 4000000 in
set_option maxRecDepth 100000 in
theorem c_X12_snowsAndSteals (l : Launch) (D : va_G) (y : Nat → ClassId) (ek : EK) (n : Nat) (a0 : Nat → Nat) (v0 : St) (x1 : Int32) (res : St) (hf : m_X12_snowsAndSteals n v0 x1 = some res) : CV l yX12_snowsAndSteals wX12_snowsAndSteals { frames := 12, cells := 0, slots := 0, locals := 274 } D y ek [.ref (a0 0), .int x1] [bX12 y a0 v0] [bX12 y a0 res] 0 0 := by
  unfold m_X12_snowsAndSteals at hf
  refine cv_of (cc := cX12_snowsAndSteals) (maxL := 4) (by decide) rfl rfl (Nat.le_of_ble_eq_true rfl) ?_
  intro p e s m below meth c Q A F hret
  refine a_lv (lv' := [(0, .ref (a0 0)), (1, .int x1)]) rfl ?_
  refine a_iloadn (pc := 0) (j := 1) F dX12_snowsAndSteals_0 rfl rfl ?_
  refine a_if_eq (pc := 1) (tgt := 56) F dX12_snowsAndSteals_1 (by decide) (fun h => ?_) (fun h => ?_)
  · replace hf := it_pos h hf
    refine a_aloadn (pc := 56) (j := 0) F dX12_snowsAndSteals_56 rfl rfl ?_
    refine a_bipush (pc := 57) F dX12_snowsAndSteals_57 kb_100 ?_
    obtain ⟨t1, ht1, hf⟩ := bd_some hf
    refine a_callV (pc := 59) (bs' := [bX12 y a0 t1.2]) (kb := 0) (j := 0) F [0] (c_X12_drawn l D y ek n a0 _ _ _ ht1) (cwV 1 F.1.2.2.2.2 (gV q8_44 q8_46 qs_90 q1_11 q8_47) rfl rfl rfl (by decide +kernel) ⟨Nat.le_of_ble_eq_true rfl, Nat.le_of_ble_eq_true rfl⟩) rfl rfl rfl rfl (by decide) rfl rfl rfl rfl rfl rfl (Nat.le_of_ble_eq_true rfl) ⟨Nat.zero_le _, Nat.zero_le _⟩ dX12_snowsAndSteals_59 ?_
    refine a_aloadn (pc := 62) (j := 0) F dX12_snowsAndSteals_62 rfl rfl ?_
    refine a_get (pc := 63) (kb := 0) (j := 0) (f := 1) F iW_X12 rfl rfl rfl (by decide) (tl q6_69) (fun _ h => h) rfl dX12_snowsAndSteals_63 ?_
    refine a_bipush (pc := 66) F dX12_snowsAndSteals_66 kb_8 ?_
    refine a_ialdc (pc := 68) (kb := 0) (j := 1) (k := 8) F rfl rfl (by decide) (by decide) dX12_snowsAndSteals_68 ?_
    refine a_icmp_lt (pc := 69) (tgt := 73) F dX12_snowsAndSteals_69 (by decide) (fun h => ?_) (fun h => ?_)
    · replace hf := it_pos h hf
      refine a_aloadn (pc := 73) (j := 0) F dX12_snowsAndSteals_73 rfl rfl ?_
      refine a_iconst (pc := 74) F dX12_snowsAndSteals_74 kc_0 ?_
      obtain ⟨t2, ht2, hf⟩ := bd_some hf
      refine a_callV (pc := 75) (bs' := [bX12 y a0 t2.2]) (kb := 0) (j := 0) F [0] (c_X12_luredTo l D y ek n a0 _ _ _ ht2) (cwV 1 F.1.2.2.2.2 (gV q7_235 q7_237 qs_81 q1_11 q7_238) rfl rfl rfl (by decide +kernel) ⟨Nat.le_of_ble_eq_true rfl, Nat.le_of_ble_eq_true rfl⟩) rfl rfl rfl rfl (by decide) rfl rfl rfl rfl rfl rfl (Nat.le_of_ble_eq_true rfl) ⟨Nat.zero_le _, Nat.zero_le _⟩ dX12_snowsAndSteals_75 ?_
      refine a_istoren (pc := 78) (lv' := [(0, .ref (a0 0)), (1, .int x1), (2, .int t2.1)]) F [1, 2, 0] dX12_snowsAndSteals_78 rfl (by decide) rfl ?_
      refine a_aloadn (pc := 79) (j := 0) F dX12_snowsAndSteals_79 rfl rfl ?_
      refine a_iconst (pc := 80) F dX12_snowsAndSteals_80 kc_0 ?_
      obtain ⟨t3, ht3, hf⟩ := bd_some hf
      refine a_callV (pc := 81) (bs' := [bX12 y a0 t3.2]) (kb := 0) (j := 0) F [0] (c_X12_steals l D y ek n a0 _ _ _ ht3) (cwV 1 F.1.2.2.2.2 (gV q8_7 q8_9 qs_83 q1_11 q8_10) rfl rfl rfl (by decide +kernel) ⟨Nat.le_of_ble_eq_true rfl, Nat.le_of_ble_eq_true rfl⟩) rfl rfl rfl rfl (by decide) rfl rfl rfl rfl rfl rfl (Nat.le_of_ble_eq_true rfl) ⟨Nat.zero_le _, Nat.zero_le _⟩ dX12_snowsAndSteals_81 ?_
      refine a_istoren (pc := 84) (lv' := [(0, .ref (a0 0)), (1, .int x1), (2, .int t2.1), (3, .int t3.1)]) F [1, 2, 3, 0] dX12_snowsAndSteals_84 rfl (by decide) rfl ?_
      refine a_iloadn (pc := 85) (j := 3) F dX12_snowsAndSteals_85 rfl rfl ?_
      refine a_iconst (pc := 86) F dX12_snowsAndSteals_86 kc_m1 ?_
      refine a_icmp_eq (pc := 87) (tgt := 98) F dX12_snowsAndSteals_87 (by decide) (fun h => ?_) (fun h => ?_)
      · replace hf := it_pos h hf
        obtain rfl := Option.some.inj hf
        exact hret _ _ _ _ (Nat.zero_le _) (Nat.zero_le _) dX12_snowsAndSteals_98
      · replace hf := it_neg h hf
        refine a_aloadn (pc := 90) (j := 0) F dX12_snowsAndSteals_90 rfl rfl ?_
        refine a_iloadn (pc := 91) (j := 3) F dX12_snowsAndSteals_91 rfl rfl ?_
        refine a_iloadn (pc := 92) (j := 2) F dX12_snowsAndSteals_92 rfl rfl ?_
        refine a_iconst (pc := 93) F dX12_snowsAndSteals_93 kc_m1 ?_
        refine a_iconst (pc := 94) F dX12_snowsAndSteals_94 kc_1 ?_
        obtain ⟨t4, ht4, hf⟩ := bd_some hf
        refine a_callVv (pc := 95) (bs' := [bX12 y a0 t4]) (kb := 0) (j := 0) F [0] (c_X12_tells l D y ek n a0 _ _ _ _ _ _ ht4) (cwV 4 F.1.2.2.2.2 (gV q7_207 q7_209 qs_80 q1_11 q7_210) rfl rfl rfl (by decide +kernel) ⟨Nat.le_of_ble_eq_true rfl, Nat.le_of_ble_eq_true rfl⟩) rfl rfl rfl rfl (by decide) rfl rfl rfl rfl rfl rfl (Nat.le_of_ble_eq_true rfl) ⟨Nat.zero_le _, Nat.zero_le _⟩ dX12_snowsAndSteals_95 ?_
        obtain rfl := Option.some.inj hf
        exact hret _ _ _ _ (Nat.zero_le _) (Nat.zero_le _) dX12_snowsAndSteals_98
    · replace hf := it_neg h hf
      obtain rfl := Option.some.inj hf
      exact hret _ _ _ _ (Nat.zero_le _) (Nat.zero_le _) dX12_snowsAndSteals_72
  · replace hf := it_neg h hf
    refine a_aloadn (pc := 4) (j := 0) F dX12_snowsAndSteals_4 rfl rfl ?_
    refine a_get (pc := 5) (kb := 0) (j := 0) (f := 1) F iW_X12 rfl rfl rfl (by decide) (tl q6_69) (fun _ h => h) rfl dX12_snowsAndSteals_5 ?_
    refine a_iconst (pc := 8) F dX12_snowsAndSteals_8 kc_5 ?_
    refine a_aloadn (pc := 9) (j := 0) F dX12_snowsAndSteals_9 rfl rfl ?_
    refine a_bipush (pc := 10) F dX12_snowsAndSteals_10 kb_100 ?_
    obtain ⟨t5, ht5, hf⟩ := bd_some hf
    refine a_callV (pc := 12) (bs' := [bX12 y a0 t5.2]) (kb := 0) (j := 0) F [0] (c_X12_drawn l D y ek n a0 _ _ _ ht5) (cwV 1 F.1.2.2.2.2 (gV q8_44 q8_46 qs_90 q1_11 q8_47) rfl rfl rfl (by decide +kernel) ⟨Nat.le_of_ble_eq_true rfl, Nat.le_of_ble_eq_true rfl⟩) rfl rfl rfl rfl (by decide) rfl rfl rfl rfl rfl rfl (Nat.le_of_ble_eq_true rfl) ⟨Nat.zero_le _, Nat.zero_le _⟩ dX12_snowsAndSteals_12 ?_
    refine a_aloadn (pc := 15) (j := 0) F dX12_snowsAndSteals_15 rfl rfl ?_
    refine a_get (pc := 16) (kb := 0) (j := 0) (f := 1) F iW_X12 rfl rfl rfl (by decide) (tl q6_69) (fun _ h => h) rfl dX12_snowsAndSteals_16 ?_
    refine a_bipush (pc := 19) F dX12_snowsAndSteals_19 kb_7 ?_
    refine a_ialdc (pc := 21) (kb := 0) (j := 1) (k := 7) F rfl rfl (by decide) (by decide) dX12_snowsAndSteals_21 ?_
    refine a_icmp_ge (pc := 22) (tgt := 46) F dX12_snowsAndSteals_22 (by decide) (fun h => ?_) (fun h => ?_)
    · replace hf := it_pos h hf
      refine a_aloadn (pc := 46) (j := 0) F dX12_snowsAndSteals_46 rfl rfl ?_
      refine a_get (pc := 47) (kb := 0) (j := 0) (f := 1) F iW_X12 rfl rfl rfl (by decide) (tl q6_69) (fun _ h => h) rfl dX12_snowsAndSteals_47 ?_
      refine a_iconst (pc := 50) F dX12_snowsAndSteals_50 kc_5 ?_
      refine a_ialdc (pc := 51) (kb := 0) (j := 1) (k := 5) F rfl rfl (by decide) (by decide) dX12_snowsAndSteals_51 ?_
      refine a_iconst (pc := 52) F dX12_snowsAndSteals_52 kc_2 ?_
      refine a_idiv (pc := 53) F dX12_snowsAndSteals_53 (by decide) ?_
      obtain ⟨u6, eu6, hf⟩ := nm_some hf
      refine a_iastc (pc := 54) (kb := 0) (j := 1) (k := 5) (bs' := [bX12 y a0 u6]) F rfl rfl (by decide) (by decide) (by rw [eu6]; rfl) dX12_snowsAndSteals_54 ?_
      obtain rfl := Option.some.inj hf
      exact hret _ _ _ _ (Nat.zero_le _) (Nat.zero_le _) dX12_snowsAndSteals_55
    · replace hf := it_neg h hf
      refine a_bipush (pc := 25) F dX12_snowsAndSteals_25 kb_99 ?_
      refine a_aloadn (pc := 27) (j := 0) F dX12_snowsAndSteals_27 rfl rfl ?_
      refine a_get (pc := 28) (kb := 0) (j := 0) (f := 1) F iW_X12 rfl rfl rfl (by decide) (tl q6_69) (fun _ h => h) rfl dX12_snowsAndSteals_28 ?_
      refine a_iconst (pc := 31) F dX12_snowsAndSteals_31 kc_5 ?_
      refine a_ialdc (pc := 32) (kb := 0) (j := 1) (k := 5) F rfl rfl (by decide) (by decide) dX12_snowsAndSteals_32 ?_
      refine a_aloadn (pc := 33) (j := 0) F dX12_snowsAndSteals_33 rfl rfl ?_
      refine a_bipush (pc := 34) F dX12_snowsAndSteals_34 kb_10 ?_
      obtain ⟨t7, ht7, hf⟩ := bd_some hf
      refine a_callV (pc := 36) (bs' := [bX12 y a0 t7.2]) (kb := 0) (j := 0) F [0] (c_X12_drawn l D y ek n a0 _ _ _ ht7) (cwV 1 F.1.2.2.2.2 (gV q8_44 q8_46 qs_90 q1_11 q8_47) rfl rfl rfl (by decide +kernel) ⟨Nat.le_of_ble_eq_true rfl, Nat.le_of_ble_eq_true rfl⟩) rfl rfl rfl rfl (by decide) rfl rfl rfl rfl rfl rfl (Nat.le_of_ble_eq_true rfl) ⟨Nat.zero_le _, Nat.zero_le _⟩ dX12_snowsAndSteals_36 ?_
      refine a_iadd (pc := 39) F dX12_snowsAndSteals_39 ?_
      refine a_mmin (pc := 40) F (tl q7_119) (tl q2_170) (tl q1_22) (tl q_math_min) (Nat.le_of_ble_eq_true rfl) (Nat.le_of_ble_eq_true rfl) (Nat.zero_le _) (Nat.zero_le _) dX12_snowsAndSteals_40 ?_
      refine a_goto (pc := 43) (tgt := 54) F dX12_snowsAndSteals_43 (by decide) ?_
      obtain ⟨u8, eu8, hf⟩ := nm_some hf
      refine a_iastc (pc := 54) (kb := 0) (j := 1) (k := 5) (bs' := [bX12 y a0 u8]) F rfl rfl (by decide) (by decide) (by rw [eu8]; rfl) dX12_snowsAndSteals_54 ?_
      obtain rfl := Option.some.inj hf
      exact hret _ _ _ _ (Nat.zero_le _) (Nat.zero_le _) dX12_snowsAndSteals_55

abbrev wX12_ages : List Cond := Cond.code yX12_ages cX12_ages 2 none :: WALL
def m_X12_ages (n : Nat) (v0 : St) (x1 : Int32) : Option (St) :=
bd (m_X12_isBroken n v0 x1) (fun t1 =>
(if t1 = 0 then
bd (m_X12_plankAt n x1 1) (fun t2 =>
bd (m_X12_ofPlank n v0 x1 1) (fun t3 =>
bd (m_X12_agesBy n v0 x1) (fun t4 =>
(if ix t2 2080 then nm (su t4.2 1 (t2).toNatClampNeg (x_min 99 (t3 + t4.1))) (fun u6 =>
bd (m_X12_loadOf n u6 (2 * x1)) (fun t7 =>
bd (m_X12_loadOf n u6 ((2 * x1) + 1)) (fun t8 =>
bd (m_X12_ofPlank n u6 x1 0) (fun t9 =>
bd (m_X12_ofPlank n u6 x1 1) (fun t10 =>
(if (t7 + t8) ≤ (t9 - t10) then
some u6
else
bd (m_X12_plankAt n x1 3) (fun t11 =>
(if ix t11 2080 then nm (su u6 1 (t11).toNatClampNeg 1) (fun u13 =>
some u13) else none)))))))) else none))))
else
some v0))
set_option maxHeartbeats 4000000 in
set_option maxRecDepth 100000 in
theorem c_X12_ages (l : Launch) (D : va_G) (y : Nat → ClassId) (ek : EK) (n : Nat) (a0 : Nat → Nat) (v0 : St) (x1 : Int32) (res : St) (hf : m_X12_ages n v0 x1 = some res) : CV l yX12_ages wX12_ages { frames := 10, cells := 0, slots := 0, locals := 226 } D y ek [.ref (a0 0), .int x1] [bX12 y a0 v0] [bX12 y a0 res] 0 0 := by
  unfold m_X12_ages at hf
  refine cv_of (cc := cX12_ages) (maxL := 2) (by decide) rfl rfl (Nat.le_of_ble_eq_true rfl) ?_
  intro p e s m below meth c Q A F hret
  refine a_lv (lv' := [(0, .ref (a0 0)), (1, .int x1)]) rfl ?_
  refine a_aloadn (pc := 0) (j := 0) F dX12_ages_0 rfl rfl ?_
  refine a_iloadn (pc := 1) (j := 1) F dX12_ages_1 rfl rfl ?_
  obtain ⟨t1, ht1, hf⟩ := bd_some hf
  refine a_callV (pc := 2) (bs' := [bX12 y a0 v0]) (kb := 0) (j := 0) F [0] (c_X12_isBroken l D y ek n a0 _ _ _ ht1) (cwV 1 F.1.2.2.2.2 (gV q7_125 q7_127 qs_64 q1_11 q7_128) rfl rfl rfl (by decide +kernel) ⟨Nat.le_of_ble_eq_true rfl, Nat.le_of_ble_eq_true rfl⟩) rfl rfl rfl rfl (by decide) rfl rfl rfl rfl rfl rfl (Nat.le_of_ble_eq_true rfl) ⟨Nat.zero_le _, Nat.zero_le _⟩ dX12_ages_2 ?_
  refine a_if_eq (pc := 5) (tgt := 9) F dX12_ages_5 (by decide) (fun h => ?_) (fun h => ?_)
  · replace hf := it_pos h hf
    refine a_aloadn (pc := 9) (j := 0) F dX12_ages_9 rfl rfl ?_
    refine a_get (pc := 10) (kb := 0) (j := 0) (f := 1) F iW_X12 rfl rfl rfl (by decide) (tl q6_69) (fun _ h => h) rfl dX12_ages_10 ?_
    refine a_iloadn (pc := 13) (j := 1) F dX12_ages_13 rfl rfl ?_
    refine a_iconst (pc := 14) F dX12_ages_14 kc_1 ?_
    obtain ⟨t2, ht2, hf⟩ := bd_some hf
    refine a_callS (pc := 15) (bs' := [bX12 y a0 v0]) F [] (c_X12_plankAt l D y ek n  _ _ _ ht2) (va_cwS 2 F.1.2.2.2.2 (gS q6_209 q6_210 q1_11 q6_211) rfl rfl rfl (by decide +kernel) ⟨Nat.le_of_ble_eq_true rfl, Nat.le_of_ble_eq_true rfl⟩) (by decide) rfl rfl rfl rfl rfl rfl (Nat.le_of_ble_eq_true rfl) ⟨Nat.zero_le _, Nat.zero_le _⟩ dX12_ages_15 ?_
    refine a_bipush (pc := 18) F dX12_ages_18 kb_99 ?_
    refine a_aloadn (pc := 20) (j := 0) F dX12_ages_20 rfl rfl ?_
    refine a_iloadn (pc := 21) (j := 1) F dX12_ages_21 rfl rfl ?_
    refine a_iconst (pc := 22) F dX12_ages_22 kc_1 ?_
    obtain ⟨t3, ht3, hf⟩ := bd_some hf
    refine a_callV (pc := 23) (bs' := [bX12 y a0 v0]) (kb := 0) (j := 0) F [0] (c_X12_ofPlank l D y ek n a0 _ _ _ _ ht3) (cwV 2 F.1.2.2.2.2 (gV q7_88 q7_90 qs_56 q1_11 q7_91) rfl rfl rfl (by decide +kernel) ⟨Nat.le_of_ble_eq_true rfl, Nat.le_of_ble_eq_true rfl⟩) rfl rfl rfl rfl (by decide) rfl rfl rfl rfl rfl rfl (Nat.le_of_ble_eq_true rfl) ⟨Nat.zero_le _, Nat.zero_le _⟩ dX12_ages_23 ?_
    refine a_aloadn (pc := 26) (j := 0) F dX12_ages_26 rfl rfl ?_
    refine a_iloadn (pc := 27) (j := 1) F dX12_ages_27 rfl rfl ?_
    obtain ⟨t4, ht4, hf⟩ := bd_some hf
    refine a_callV (pc := 28) (bs' := [bX12 y a0 t4.2]) (kb := 0) (j := 0) F [0] (c_X12_agesBy l D y ek n a0 _ _ _ ht4) (cwV 1 F.1.2.2.2.2 (gV q7_129 q7_131 qs_65 q1_11 q7_132) rfl rfl rfl (by decide +kernel) ⟨Nat.le_of_ble_eq_true rfl, Nat.le_of_ble_eq_true rfl⟩) rfl rfl rfl rfl (by decide) rfl rfl rfl rfl rfl rfl (Nat.le_of_ble_eq_true rfl) ⟨Nat.zero_le _, Nat.zero_le _⟩ dX12_ages_28 ?_
    refine a_iadd (pc := 31) F dX12_ages_31 ?_
    refine a_mmin (pc := 32) F (tl q7_119) (tl q2_170) (tl q1_22) (tl q_math_min) (Nat.le_of_ble_eq_true rfl) (Nat.le_of_ble_eq_true rfl) (Nat.zero_le _) (Nat.zero_le _) dX12_ages_32 ?_
    obtain ⟨h5, hf⟩ := gd_some hf
    obtain ⟨u6, eu6, hf⟩ := nm_some hf
    refine a_iast (pc := 35) (kb := 0) (j := 1) (bs' := [bX12 y a0 u6]) F rfl rfl h5 (by rw [eu6]; rfl) dX12_ages_35 ?_
    refine a_aloadn (pc := 36) (j := 0) F dX12_ages_36 rfl rfl ?_
    refine a_iconst (pc := 37) F dX12_ages_37 kc_2 ?_
    refine a_iloadn (pc := 38) (j := 1) F dX12_ages_38 rfl rfl ?_
    refine a_imul (pc := 39) F dX12_ages_39 ?_
    obtain ⟨t7, ht7, hf⟩ := bd_some hf
    refine a_callV (pc := 40) (bs' := [bX12 y a0 u6]) (kb := 0) (j := 0) F [0] (c_X12_loadOf l D y ek n a0 _ _ _ ht7) (cwV 1 F.1.2.2.2.2 (gV q7_92 q7_94 qs_57 q1_11 q7_95) rfl rfl rfl (by decide +kernel) ⟨Nat.le_of_ble_eq_true rfl, Nat.le_of_ble_eq_true rfl⟩) rfl rfl rfl rfl (by decide) rfl rfl rfl rfl rfl rfl (Nat.le_of_ble_eq_true rfl) ⟨Nat.zero_le _, Nat.zero_le _⟩ dX12_ages_40 ?_
    refine a_aloadn (pc := 43) (j := 0) F dX12_ages_43 rfl rfl ?_
    refine a_iconst (pc := 44) F dX12_ages_44 kc_2 ?_
    refine a_iloadn (pc := 45) (j := 1) F dX12_ages_45 rfl rfl ?_
    refine a_imul (pc := 46) F dX12_ages_46 ?_
    refine a_iconst (pc := 47) F dX12_ages_47 kc_1 ?_
    refine a_iadd (pc := 48) F dX12_ages_48 ?_
    obtain ⟨t8, ht8, hf⟩ := bd_some hf
    refine a_callV (pc := 49) (bs' := [bX12 y a0 u6]) (kb := 0) (j := 0) F [0] (c_X12_loadOf l D y ek n a0 _ _ _ ht8) (cwV 1 F.1.2.2.2.2 (gV q7_92 q7_94 qs_57 q1_11 q7_95) rfl rfl rfl (by decide +kernel) ⟨Nat.le_of_ble_eq_true rfl, Nat.le_of_ble_eq_true rfl⟩) rfl rfl rfl rfl (by decide) rfl rfl rfl rfl rfl rfl (Nat.le_of_ble_eq_true rfl) ⟨Nat.zero_le _, Nat.zero_le _⟩ dX12_ages_49 ?_
    refine a_iadd (pc := 52) F dX12_ages_52 ?_
    refine a_aloadn (pc := 53) (j := 0) F dX12_ages_53 rfl rfl ?_
    refine a_iloadn (pc := 54) (j := 1) F dX12_ages_54 rfl rfl ?_
    refine a_iconst (pc := 55) F dX12_ages_55 kc_0 ?_
    obtain ⟨t9, ht9, hf⟩ := bd_some hf
    refine a_callV (pc := 56) (bs' := [bX12 y a0 u6]) (kb := 0) (j := 0) F [0] (c_X12_ofPlank l D y ek n a0 _ _ _ _ ht9) (cwV 2 F.1.2.2.2.2 (gV q7_88 q7_90 qs_56 q1_11 q7_91) rfl rfl rfl (by decide +kernel) ⟨Nat.le_of_ble_eq_true rfl, Nat.le_of_ble_eq_true rfl⟩) rfl rfl rfl rfl (by decide) rfl rfl rfl rfl rfl rfl (Nat.le_of_ble_eq_true rfl) ⟨Nat.zero_le _, Nat.zero_le _⟩ dX12_ages_56 ?_
    refine a_aloadn (pc := 59) (j := 0) F dX12_ages_59 rfl rfl ?_
    refine a_iloadn (pc := 60) (j := 1) F dX12_ages_60 rfl rfl ?_
    refine a_iconst (pc := 61) F dX12_ages_61 kc_1 ?_
    obtain ⟨t10, ht10, hf⟩ := bd_some hf
    refine a_callV (pc := 62) (bs' := [bX12 y a0 u6]) (kb := 0) (j := 0) F [0] (c_X12_ofPlank l D y ek n a0 _ _ _ _ ht10) (cwV 2 F.1.2.2.2.2 (gV q7_88 q7_90 qs_56 q1_11 q7_91) rfl rfl rfl (by decide +kernel) ⟨Nat.le_of_ble_eq_true rfl, Nat.le_of_ble_eq_true rfl⟩) rfl rfl rfl rfl (by decide) rfl rfl rfl rfl rfl rfl (Nat.le_of_ble_eq_true rfl) ⟨Nat.zero_le _, Nat.zero_le _⟩ dX12_ages_62 ?_
    refine a_isub (pc := 65) F dX12_ages_65 ?_
    refine a_icmp_le (pc := 66) (tgt := 80) F dX12_ages_66 (by decide) (fun h => ?_) (fun h => ?_)
    · replace hf := it_pos h hf
      obtain rfl := Option.some.inj hf
      exact hret _ _ _ _ (Nat.zero_le _) (Nat.zero_le _) dX12_ages_80
    · replace hf := it_neg h hf
      refine a_aloadn (pc := 69) (j := 0) F dX12_ages_69 rfl rfl ?_
      refine a_get (pc := 70) (kb := 0) (j := 0) (f := 1) F iW_X12 rfl rfl rfl (by decide) (tl q6_69) (fun _ h => h) rfl dX12_ages_70 ?_
      refine a_iloadn (pc := 73) (j := 1) F dX12_ages_73 rfl rfl ?_
      refine a_iconst (pc := 74) F dX12_ages_74 kc_3 ?_
      obtain ⟨t11, ht11, hf⟩ := bd_some hf
      refine a_callS (pc := 75) (bs' := [bX12 y a0 u6]) F [] (c_X12_plankAt l D y ek n  _ _ _ ht11) (va_cwS 2 F.1.2.2.2.2 (gS q6_209 q6_210 q1_11 q6_211) rfl rfl rfl (by decide +kernel) ⟨Nat.le_of_ble_eq_true rfl, Nat.le_of_ble_eq_true rfl⟩) (by decide) rfl rfl rfl rfl rfl rfl (Nat.le_of_ble_eq_true rfl) ⟨Nat.zero_le _, Nat.zero_le _⟩ dX12_ages_75 ?_
      refine a_iconst (pc := 78) F dX12_ages_78 kc_1 ?_
      obtain ⟨h12, hf⟩ := gd_some hf
      obtain ⟨u13, eu13, hf⟩ := nm_some hf
      refine a_iast (pc := 79) (kb := 0) (j := 1) (bs' := [bX12 y a0 u13]) F rfl rfl h12 (by rw [eu13]; rfl) dX12_ages_79 ?_
      obtain rfl := Option.some.inj hf
      exact hret _ _ _ _ (Nat.zero_le _) (Nat.zero_le _) dX12_ages_80
  · replace hf := it_neg h hf
    obtain rfl := Option.some.inj hf
    exact hret _ _ _ _ (Nat.zero_le _) (Nat.zero_le _) dX12_ages_8

abbrev wX12_oneWeek : List Cond := Cond.code yX12_oneWeek cX12_oneWeek 3 none :: WALL
def m_X12_oneWeek (n : Nat) (v0 : St) (x1 : Int32) : Option (St) :=
bd ((if x1 = 0 then
bd (m_X12_snowsAndSteals n v0 1) (fun t20 =>
some t20)
else
some v0)) (fun (t1 : St) =>
bd (lp (fun (rc10 : Int32 × St → Option (St)) (x10l : Int32 × St) =>
bd (m_X12_houses n x10l.2) (fun t11 =>
(if t11 ≤ x10l.1 then
some x10l.2
else
bd (m_X12_plankOf n x10l.1) (fun t12 =>
bd (m_X12_isBroken n x10l.2 t12) (fun t13 =>
bd ((if t13 = 0 then
bd (m_X12_houseAt n x10l.1 0) (fun t15 =>
bd (m_X12_of n x10l.2 x10l.1 0) (fun t16 =>
bd (m_X12_paysBy n x10l.2 x10l.1) (fun t17 =>
(if ix t15 2080 then nm (su t17.2 1 (t15).toNatClampNeg (x_max 0 (t16 - t17.1))) (fun u19 =>
some u19) else none))))
else
some x10l.2)) (fun (t14 : St) =>
rc10 ((x10l.1 + 1), t14))))))) n (0, t1)) (fun (t2 : St) =>
bd ((if x1 = 0 then
bd (m_X12_snowsAndSteals n t2 0) (fun t9 =>
some t9)
else
some t2)) (fun (t3 : St) =>
bd (lp (fun (rc6 : Int32 × St → Option (St)) (x6l : Int32 × St) =>
bd (m_X12_planks n x6l.2) (fun t7 =>
(if t7 ≤ x6l.1 then
some x6l.2
else
bd (m_X12_ages n x6l.2 x6l.1) (fun t8 =>
rc6 ((x6l.1 + 1), t8))))) n (0, t3)) (fun (t4 : St) =>
nm (su t4 1 4 (x_min 9999 ((t4 1 4) + 1))) (fun u5 =>
some u5)))))
set_option maxHeartbeats 4000000 in
set_option maxRecDepth 100000 in
theorem c_X12_oneWeek (l : Launch) (D : va_G) (y : Nat → ClassId) (ek : EK) (n : Nat) (a0 : Nat → Nat) (v0 : St) (x1 : Int32) (res : St) (hf : m_X12_oneWeek n v0 x1 = some res) : CV l yX12_oneWeek wX12_oneWeek { frames := 13, cells := 0, slots := 0, locals := 297 } D y ek [.ref (a0 0), .int x1] [bX12 y a0 v0] [bX12 y a0 res] 0 0 := by
  unfold m_X12_oneWeek at hf
  refine cv_of (cc := cX12_oneWeek) (maxL := 3) (by decide) rfl rfl (Nat.le_of_ble_eq_true rfl) ?_
  intro p e s m below meth c Q A F hret
  refine a_lv (lv' := [(0, .ref (a0 0)), (1, .int x1)]) rfl ?_
  refine a_iloadn (pc := 0) (j := 1) F dX12_oneWeek_0 rfl rfl ?_
  refine a_join 9 (fun (t1 : St) => [(0, .ref (a0 0)), (1, .int x1)]) (fun (t1 : St) => []) (fun (t1 : St) => [bX12 y a0 t1]) hf (fun t1 hf => ?_) (fun t1 hf J1 => ?_)
  · try dsimp only at hf ⊢
    refine a_iconst (pc := 9) F dX12_oneWeek_9 kc_0 ?_
    refine a_istoren (pc := 10) (lv' := [(0, .ref (a0 0)), (1, .int x1), (2, .int 0)]) F [1, 2, 0] dX12_oneWeek_10 rfl (by decide) rfl ?_
    refine a_join 62 (fun (t2 : St) => [(0, .ref (a0 0)), (1, .int x1)]) (fun (t2 : St) => []) (fun (t2 : St) => [bX12 y a0 t2]) hf (fun t2 hf => ?_) (fun t2 hf J2 => ?_)
    · try dsimp only at hf ⊢
      refine a_iloadn (pc := 62) (j := 1) F dX12_oneWeek_62 rfl rfl ?_
      refine a_join 71 (fun (t3 : St) => [(0, .ref (a0 0))]) (fun (t3 : St) => []) (fun (t3 : St) => [bX12 y a0 t3]) hf (fun t3 hf => ?_) (fun t3 hf J3 => ?_)
      · try dsimp only at hf ⊢
        refine a_iconst (pc := 71) F dX12_oneWeek_71 kc_0 ?_
        refine a_istoren (pc := 72) (lv' := [(0, .ref (a0 0)), (2, .int 0)]) F [1, 0] dX12_oneWeek_72 rfl (by decide) rfl ?_
        refine a_join 92 (fun (t4 : St) => [(0, .ref (a0 0))]) (fun (t4 : St) => []) (fun (t4 : St) => [bX12 y a0 t4]) hf (fun t4 hf => ?_) (fun t4 hf J4 => ?_)
        · try dsimp only at hf ⊢
          refine a_aloadn (pc := 92) (j := 0) F dX12_oneWeek_92 rfl rfl ?_
          refine a_get (pc := 93) (kb := 0) (j := 0) (f := 1) F iW_X12 rfl rfl rfl (by decide) (tl q6_69) (fun _ h => h) rfl dX12_oneWeek_93 ?_
          refine a_iconst (pc := 96) F dX12_oneWeek_96 kc_4 ?_
          refine a_sipush (pc := 97) F dX12_oneWeek_97 ks_9999 ?_
          refine a_aloadn (pc := 100) (j := 0) F dX12_oneWeek_100 rfl rfl ?_
          refine a_get (pc := 101) (kb := 0) (j := 0) (f := 1) F iW_X12 rfl rfl rfl (by decide) (tl q6_69) (fun _ h => h) rfl dX12_oneWeek_101 ?_
          refine a_iconst (pc := 104) F dX12_oneWeek_104 kc_4 ?_
          refine a_ialdc (pc := 105) (kb := 0) (j := 1) (k := 4) F rfl rfl (by decide) (by decide) dX12_oneWeek_105 ?_
          refine a_iconst (pc := 106) F dX12_oneWeek_106 kc_1 ?_
          refine a_iadd (pc := 107) F dX12_oneWeek_107 ?_
          refine a_mmin (pc := 108) F (tl q7_119) (tl q2_170) (tl q1_22) (tl q_math_min) (Nat.le_of_ble_eq_true rfl) (Nat.le_of_ble_eq_true rfl) (Nat.zero_le _) (Nat.zero_le _) dX12_oneWeek_108 ?_
          obtain ⟨u5, eu5, hf⟩ := nm_some hf
          refine a_iastc (pc := 111) (kb := 0) (j := 1) (k := 4) (bs' := [bX12 y a0 u5]) F rfl rfl (by decide) (by decide) (by rw [eu5]; rfl) dX12_oneWeek_111 ?_
          obtain rfl := Option.some.inj hf
          exact hret _ _ _ _ (Nat.zero_le _) (Nat.zero_le _) dX12_oneWeek_112
        · refine a_loop 73 (fun (x6l : Int32 × St) => [(0, .ref (a0 0)), (2, .int x6l.1)]) (fun (x6l : Int32 × St) => [bX12 y a0 x6l.2]) (fun rc6 x6l ih6 hf => ?_) hf rfl rfl
          try dsimp only at hf ⊢
          refine a_iloadn (pc := 73) (j := 1) F dX12_oneWeek_73 rfl rfl ?_
          refine a_aloadn (pc := 74) (j := 0) F dX12_oneWeek_74 rfl rfl ?_
          obtain ⟨t7, ht7, hf⟩ := bd_some hf
          refine a_callV (pc := 75) (bs' := [bX12 y a0 x6l.2]) (kb := 0) (j := 0) F [0] (c_X12_planks l D y ek n a0 _ _ ht7) (cwV 0 F.1.2.2.2.2 (gV q6_196 q6_198 qs_34 q1_11 q6_199) rfl rfl rfl (by decide +kernel) ⟨Nat.le_of_ble_eq_true rfl, Nat.le_of_ble_eq_true rfl⟩) rfl rfl rfl rfl (by decide) rfl rfl rfl rfl rfl rfl (Nat.le_of_ble_eq_true rfl) ⟨Nat.zero_le _, Nat.zero_le _⟩ dX12_oneWeek_75 ?_
          refine a_icmp_ge (pc := 78) (tgt := 92) F dX12_oneWeek_78 (by decide) (fun h => ?_) (fun h => ?_)
          · replace hf := it_pos h hf
            refine a_sub [0] rfl ?_
            obtain rfl := Option.some.inj hf
            exact J4
          · replace hf := it_neg h hf
            refine a_aloadn (pc := 81) (j := 0) F dX12_oneWeek_81 rfl rfl ?_
            refine a_iloadn (pc := 82) (j := 1) F dX12_oneWeek_82 rfl rfl ?_
            obtain ⟨t8, ht8, hf⟩ := bd_some hf
            refine a_callVv (pc := 83) (bs' := [bX12 y a0 t8]) (kb := 0) (j := 0) F [0] (c_X12_ages l D y ek n a0 _ _ _ ht8) (cwV 1 F.1.2.2.2.2 (gV q8_49 q8_51 qs_91 q1_11 q8_52) rfl rfl rfl (by decide +kernel) ⟨Nat.le_of_ble_eq_true rfl, Nat.le_of_ble_eq_true rfl⟩) rfl rfl rfl rfl (by decide) rfl rfl rfl rfl rfl rfl (Nat.le_of_ble_eq_true rfl) ⟨Nat.zero_le _, Nat.zero_le _⟩ dX12_oneWeek_83 ?_
            refine a_iinc (pc := 86) (j := 1) (v := (x6l.1 + 1)) (lv' := [(0, .ref (a0 0)), (2, .int (x6l.1 + 1))]) F [1, 0] dX12_oneWeek_86 rfl ki_1 (by decide) rfl ?_
            refine a_goto (pc := 89) (tgt := 73) F dX12_oneWeek_89 (by decide) ?_
            exact ih6 ((x6l.1 + 1), t8) hf
      · refine a_if_ne (pc := 63) (tgt := 71) F dX12_oneWeek_63 (by decide) (fun h => ?_) (fun h => ?_)
        · replace hf := it_neg h hf
          refine a_sub [0] rfl ?_
          obtain rfl := Option.some.inj hf
          exact J3
        · replace hf := it_pos h hf
          refine a_aloadn (pc := 66) (j := 0) F dX12_oneWeek_66 rfl rfl ?_
          refine a_iconst (pc := 67) F dX12_oneWeek_67 kc_0 ?_
          obtain ⟨t9, ht9, hf⟩ := bd_some hf
          refine a_callVv (pc := 68) (bs' := [bX12 y a0 t9]) (kb := 0) (j := 0) F [0] (c_X12_snowsAndSteals l D y ek n a0 _ _ _ ht9) (cwV 1 F.1.2.2.2.2 (gV q8_40 q8_42 qs_89 q1_11 q8_43) rfl rfl rfl (by decide +kernel) ⟨Nat.le_of_ble_eq_true rfl, Nat.le_of_ble_eq_true rfl⟩) rfl rfl rfl rfl (by decide) rfl rfl rfl rfl rfl rfl (Nat.le_of_ble_eq_true rfl) ⟨Nat.zero_le _, Nat.zero_le _⟩ dX12_oneWeek_68 ?_
          refine a_sub [0] rfl ?_
          obtain rfl := Option.some.inj hf
          exact J3
    · refine a_loop 11 (fun (x10l : Int32 × St) => [(0, .ref (a0 0)), (1, .int x1), (2, .int x10l.1)]) (fun (x10l : Int32 × St) => [bX12 y a0 x10l.2]) (fun rc10 x10l ih10 hf => ?_) hf rfl rfl
      try dsimp only at hf ⊢
      refine a_iloadn (pc := 11) (j := 2) F dX12_oneWeek_11 rfl rfl ?_
      refine a_aloadn (pc := 12) (j := 0) F dX12_oneWeek_12 rfl rfl ?_
      obtain ⟨t11, ht11, hf⟩ := bd_some hf
      refine a_callV (pc := 13) (bs' := [bX12 y a0 x10l.2]) (kb := 0) (j := 0) F [0] (c_X12_houses l D y ek n a0 _ _ ht11) (cwV 0 F.1.2.2.2.2 (gV q6_220 q6_222 qs_38 q1_11 q6_223) rfl rfl rfl (by decide +kernel) ⟨Nat.le_of_ble_eq_true rfl, Nat.le_of_ble_eq_true rfl⟩) rfl rfl rfl rfl (by decide) rfl rfl rfl rfl rfl rfl (Nat.le_of_ble_eq_true rfl) ⟨Nat.zero_le _, Nat.zero_le _⟩ dX12_oneWeek_13 ?_
      refine a_icmp_ge (pc := 16) (tgt := 62) F dX12_oneWeek_16 (by decide) (fun h => ?_) (fun h => ?_)
      · replace hf := it_pos h hf
        refine a_sub [0, 1] rfl ?_
        obtain rfl := Option.some.inj hf
        exact J2
      · replace hf := it_neg h hf
        refine a_aloadn (pc := 19) (j := 0) F dX12_oneWeek_19 rfl rfl ?_
        refine a_iloadn (pc := 20) (j := 2) F dX12_oneWeek_20 rfl rfl ?_
        obtain ⟨t12, ht12, hf⟩ := bd_some hf
        refine a_callS (pc := 21) (bs' := [bX12 y a0 x10l.2]) F [] (c_X12_plankOf l D y ek n  _ _ ht12) (va_cwS 1 F.1.2.2.2.2 (gS q7_149 q7_150 q1_11 q7_151) rfl rfl rfl (by decide +kernel) ⟨Nat.le_of_ble_eq_true rfl, Nat.le_of_ble_eq_true rfl⟩) (by decide) rfl rfl rfl rfl rfl rfl (Nat.le_of_ble_eq_true rfl) ⟨Nat.zero_le _, Nat.zero_le _⟩ dX12_oneWeek_21 ?_
        obtain ⟨t13, ht13, hf⟩ := bd_some hf
        refine a_callV (pc := 24) (bs' := [bX12 y a0 x10l.2]) (kb := 0) (j := 0) F [0] (c_X12_isBroken l D y ek n a0 _ _ _ ht13) (cwV 1 F.1.2.2.2.2 (gV q7_125 q7_127 qs_64 q1_11 q7_128) rfl rfl rfl (by decide +kernel) ⟨Nat.le_of_ble_eq_true rfl, Nat.le_of_ble_eq_true rfl⟩) rfl rfl rfl rfl (by decide) rfl rfl rfl rfl rfl rfl (Nat.le_of_ble_eq_true rfl) ⟨Nat.zero_le _, Nat.zero_le _⟩ dX12_oneWeek_24 ?_
        refine a_join 56 (fun (t14 : St) => [(0, .ref (a0 0)), (1, .int x1), (2, .int x10l.1)]) (fun (t14 : St) => []) (fun (t14 : St) => [bX12 y a0 t14]) hf (fun t14 hf => ?_) (fun t14 hf J14 => ?_)
        · try dsimp only at hf ⊢
          refine a_iinc (pc := 56) (j := 2) (v := (x10l.1 + 1)) (lv' := [(0, .ref (a0 0)), (1, .int x1), (2, .int (x10l.1 + 1))]) F [1, 2, 0] dX12_oneWeek_56 rfl ki_1 (by decide) rfl ?_
          refine a_goto (pc := 59) (tgt := 11) F dX12_oneWeek_59 (by decide) ?_
          exact ih10 ((x10l.1 + 1), t14) hf
        · refine a_if_ne (pc := 27) (tgt := 56) F dX12_oneWeek_27 (by decide) (fun h => ?_) (fun h => ?_)
          · replace hf := it_neg h hf
            obtain rfl := Option.some.inj hf
            exact J14
          · replace hf := it_pos h hf
            refine a_aloadn (pc := 30) (j := 0) F dX12_oneWeek_30 rfl rfl ?_
            refine a_get (pc := 31) (kb := 0) (j := 0) (f := 1) F iW_X12 rfl rfl rfl (by decide) (tl q6_69) (fun _ h => h) rfl dX12_oneWeek_31 ?_
            refine a_iloadn (pc := 34) (j := 2) F dX12_oneWeek_34 rfl rfl ?_
            refine a_iconst (pc := 35) F dX12_oneWeek_35 kc_0 ?_
            obtain ⟨t15, ht15, hf⟩ := bd_some hf
            refine a_callS (pc := 36) (bs' := [bX12 y a0 x10l.2]) F [] (c_X12_houseAt l D y ek n  _ _ _ ht15) (va_cwS 2 F.1.2.2.2.2 (gS q6_212 q6_213 q1_11 q6_214) rfl rfl rfl (by decide +kernel) ⟨Nat.le_of_ble_eq_true rfl, Nat.le_of_ble_eq_true rfl⟩) (by decide) rfl rfl rfl rfl rfl rfl (Nat.le_of_ble_eq_true rfl) ⟨Nat.zero_le _, Nat.zero_le _⟩ dX12_oneWeek_36 ?_
            refine a_iconst (pc := 39) F dX12_oneWeek_39 kc_0 ?_
            refine a_aloadn (pc := 40) (j := 0) F dX12_oneWeek_40 rfl rfl ?_
            refine a_iloadn (pc := 41) (j := 2) F dX12_oneWeek_41 rfl rfl ?_
            refine a_iconst (pc := 42) F dX12_oneWeek_42 kc_0 ?_
            obtain ⟨t16, ht16, hf⟩ := bd_some hf
            refine a_callV (pc := 43) (bs' := [bX12 y a0 x10l.2]) (kb := 0) (j := 0) F [0] (c_X12_of l D y ek n a0 _ _ _ _ ht16) (cwV 2 F.1.2.2.2.2 (gV q7_111 q7_113 qs_61 q1_11 q7_114) rfl rfl rfl (by decide +kernel) ⟨Nat.le_of_ble_eq_true rfl, Nat.le_of_ble_eq_true rfl⟩) rfl rfl rfl rfl (by decide) rfl rfl rfl rfl rfl rfl (Nat.le_of_ble_eq_true rfl) ⟨Nat.zero_le _, Nat.zero_le _⟩ dX12_oneWeek_43 ?_
            refine a_aloadn (pc := 46) (j := 0) F dX12_oneWeek_46 rfl rfl ?_
            refine a_iloadn (pc := 47) (j := 2) F dX12_oneWeek_47 rfl rfl ?_
            obtain ⟨t17, ht17, hf⟩ := bd_some hf
            refine a_callV (pc := 48) (bs' := [bX12 y a0 t17.2]) (kb := 0) (j := 0) F [0] (c_X12_paysBy l D y ek n a0 _ _ _ ht17) (cwV 1 F.1.2.2.2.2 (gV q7_163 q7_165 qs_71 q1_11 q7_166) rfl rfl rfl (by decide +kernel) ⟨Nat.le_of_ble_eq_true rfl, Nat.le_of_ble_eq_true rfl⟩) rfl rfl rfl rfl (by decide) rfl rfl rfl rfl rfl rfl (Nat.le_of_ble_eq_true rfl) ⟨Nat.zero_le _, Nat.zero_le _⟩ dX12_oneWeek_48 ?_
            refine a_isub (pc := 51) F dX12_oneWeek_51 ?_
            refine a_mmax (pc := 52) F (tl q7_120) (tl q2_173) (tl q1_22) (tl q_math_max) (Nat.le_of_ble_eq_true rfl) (Nat.le_of_ble_eq_true rfl) (Nat.zero_le _) (Nat.zero_le _) dX12_oneWeek_52 ?_
            obtain ⟨h18, hf⟩ := gd_some hf
            obtain ⟨u19, eu19, hf⟩ := nm_some hf
            refine a_iast (pc := 55) (kb := 0) (j := 1) (bs' := [bX12 y a0 u19]) F rfl rfl h18 (by rw [eu19]; rfl) dX12_oneWeek_55 ?_
            obtain rfl := Option.some.inj hf
            exact J14
  · refine a_if_ne (pc := 1) (tgt := 9) F dX12_oneWeek_1 (by decide) (fun h => ?_) (fun h => ?_)
    · replace hf := it_neg h hf
      obtain rfl := Option.some.inj hf
      exact J1
    · replace hf := it_pos h hf
      refine a_aloadn (pc := 4) (j := 0) F dX12_oneWeek_4 rfl rfl ?_
      refine a_iconst (pc := 5) F dX12_oneWeek_5 kc_1 ?_
      obtain ⟨t20, ht20, hf⟩ := bd_some hf
      refine a_callVv (pc := 6) (bs' := [bX12 y a0 t20]) (kb := 0) (j := 0) F [0] (c_X12_snowsAndSteals l D y ek n a0 _ _ _ ht20) (cwV 1 F.1.2.2.2.2 (gV q8_40 q8_42 qs_89 q1_11 q8_43) rfl rfl rfl (by decide +kernel) ⟨Nat.le_of_ble_eq_true rfl, Nat.le_of_ble_eq_true rfl⟩) rfl rfl rfl rfl (by decide) rfl rfl rfl rfl rfl rfl (Nat.le_of_ble_eq_true rfl) ⟨Nat.zero_le _, Nat.zero_le _⟩ dX12_oneWeek_6 ?_
      obtain rfl := Option.some.inj hf
      exact J1

abbrev wX12_goneOnes : List Cond := Cond.code yX12_goneOnes cX12_goneOnes 3 (some .int) :: WALL
def m_X12_goneOnes (n : Nat) (v0 : St) : Option (Int32) :=
lp (fun (rc1 : Int32 × Int32 → Option (Int32)) (x1l : Int32 × Int32) =>
bd (m_X12_things n v0) (fun t2 =>
(if t2 ≤ x1l.2 then
some x1l.1
else
bd (m_X12_isGone n v0 x1l.2) (fun t3 =>
bd ((if t3 = 0 then
some 0
else
some (x_shl 1 x1l.2))) (fun (t4 : Int32) =>
nm (x1l.1 ||| t4) (fun x1_5 =>
rc1 (x1_5, (x1l.2 + 1)))))))) n (0, 0)
set_option maxHeartbeats 4000000 in
set_option maxRecDepth 100000 in
theorem c_X12_goneOnes (l : Launch) (D : va_G) (y : Nat → ClassId) (ek : EK) (n : Nat) (a0 : Nat → Nat) (v0 : St) (res : Int32) (hf : m_X12_goneOnes n v0 = some res) : CI l yX12_goneOnes wX12_goneOnes { frames := 3, cells := 0, slots := 0, locals := 64 } D y ek [.ref (a0 0)] [bX12 y a0 v0] (res) [bX12 y a0 v0] 0 0 := by
  unfold m_X12_goneOnes at hf
  refine ci_of (cc := cX12_goneOnes) (maxL := 3) (by decide) rfl rfl (Nat.le_of_ble_eq_true rfl) ?_
  intro p e s m below meth c Q A F hret
  refine a_lv (lv' := [(0, .ref (a0 0))]) rfl ?_
  refine a_iconst (pc := 0) F dX12_goneOnes_0 kc_0 ?_
  refine a_istoren (pc := 1) (lv' := [(0, .ref (a0 0)), (1, .int 0)]) F [1, 0] dX12_goneOnes_1 rfl (by decide) rfl ?_
  refine a_iconst (pc := 2) F dX12_goneOnes_2 kc_0 ?_
  refine a_istoren (pc := 3) (lv' := [(0, .ref (a0 0)), (1, .int 0), (2, .int 0)]) F [1, 2, 0] dX12_goneOnes_3 rfl (by decide) rfl ?_
  refine a_loop 4 (fun (x1l : Int32 × Int32) => [(0, .ref (a0 0)), (1, .int x1l.1), (2, .int x1l.2)]) (fun (x1l : Int32 × Int32) => [bX12 y a0 v0]) (fun rc1 x1l ih1 hf => ?_) hf rfl rfl
  try dsimp only at hf ⊢
  refine a_iloadn (pc := 4) (j := 2) F dX12_goneOnes_4 rfl rfl ?_
  refine a_aloadn (pc := 5) (j := 0) F dX12_goneOnes_5 rfl rfl ?_
  obtain ⟨t2, ht2, hf⟩ := bd_some hf
  refine a_callV (pc := 6) (bs' := [bX12 y a0 v0]) (kb := 0) (j := 0) F [0] (c_X12_things l D y ek n a0 _ _ ht2) (cwV 0 F.1.2.2.2.2 (gV q6_234 q6_236 qs_41 q1_11 q6_237) rfl rfl rfl (by decide +kernel) ⟨Nat.le_of_ble_eq_true rfl, Nat.le_of_ble_eq_true rfl⟩) rfl rfl rfl rfl (by decide) rfl rfl rfl rfl rfl rfl (Nat.le_of_ble_eq_true rfl) ⟨Nat.zero_le _, Nat.zero_le _⟩ dX12_goneOnes_6 ?_
  refine a_icmp_ge (pc := 9) (tgt := 36) F dX12_goneOnes_9 (by decide) (fun h => ?_) (fun h => ?_)
  · replace hf := it_pos h hf
    refine a_iloadn (pc := 36) (j := 1) F dX12_goneOnes_36 rfl rfl ?_
    obtain rfl := Option.some.inj hf
    exact hret _ _ _ _ (Nat.zero_le _) (Nat.zero_le _) rfl dX12_goneOnes_37
  · replace hf := it_neg h hf
    refine a_iloadn (pc := 12) (j := 1) F dX12_goneOnes_12 rfl rfl ?_
    refine a_aloadn (pc := 13) (j := 0) F dX12_goneOnes_13 rfl rfl ?_
    refine a_iloadn (pc := 14) (j := 2) F dX12_goneOnes_14 rfl rfl ?_
    obtain ⟨t3, ht3, hf⟩ := bd_some hf
    refine a_callV (pc := 15) (bs' := [bX12 y a0 v0]) (kb := 0) (j := 0) F [0] (c_X12_isGone l D y ek n a0 _ _ _ ht3) (cwV 1 F.1.2.2.2.2 (gV q7_199 q7_201 qs_78 q1_11 q7_202) rfl rfl rfl (by decide +kernel) ⟨Nat.le_of_ble_eq_true rfl, Nat.le_of_ble_eq_true rfl⟩) rfl rfl rfl rfl (by decide) rfl rfl rfl rfl rfl rfl (Nat.le_of_ble_eq_true rfl) ⟨Nat.zero_le _, Nat.zero_le _⟩ dX12_goneOnes_15 ?_
    refine a_join 28 (fun (t4 : Int32) => [(0, .ref (a0 0)), (2, .int x1l.2)]) (fun (t4 : Int32) => [.int t4, .int x1l.1]) (fun (t4 : Int32) => [bX12 y a0 v0]) hf (fun t4 hf => ?_) (fun t4 hf J4 => ?_)
    · try dsimp only at hf ⊢
      refine a_ior (pc := 28) F dX12_goneOnes_28 ?_
      obtain ⟨x1_5, ex1_5, hf⟩ := nm_some hf
      refine a_nmi ex1_5 ?_
      refine a_istoren (pc := 29) (lv' := [(0, .ref (a0 0)), (1, .int x1_5), (2, .int x1l.2)]) F [1, 0, 2] dX12_goneOnes_29 rfl (by decide) rfl ?_
      refine a_iinc (pc := 30) (j := 2) (v := (x1l.2 + 1)) (lv' := [(0, .ref (a0 0)), (1, .int x1_5), (2, .int (x1l.2 + 1))]) F [1, 2, 0] dX12_goneOnes_30 rfl ki_1 (by decide) rfl ?_
      refine a_goto (pc := 33) (tgt := 4) F dX12_goneOnes_33 (by decide) ?_
      exact ih1 (x1_5, (x1l.2 + 1)) hf
    · refine a_if_eq (pc := 18) (tgt := 27) F dX12_goneOnes_18 (by decide) (fun h => ?_) (fun h => ?_)
      · replace hf := it_pos h hf
        refine a_iconst (pc := 27) F dX12_goneOnes_27 kc_0 ?_
        refine a_sub [0, 2] rfl ?_
        obtain rfl := Option.some.inj hf
        exact J4
      · replace hf := it_neg h hf
        refine a_iconst (pc := 21) F dX12_goneOnes_21 kc_1 ?_
        refine a_iloadn (pc := 22) (j := 2) F dX12_goneOnes_22 rfl rfl ?_
        refine a_ishl (pc := 23) F dX12_goneOnes_23 ?_
        refine a_goto (pc := 24) (tgt := 28) F dX12_goneOnes_24 (by decide) ?_
        refine a_sub [0, 2] rfl ?_
        obtain rfl := Option.some.inj hf
        exact J4

abbrev wX12_weeks : List Cond := Cond.code yX12_weeks cX12_weeks 4 (some .int) :: WALL
def m_X12_weeks (n : Nat) (v0 : St) (x1 : Int32) : Option (Int32 × St) :=
nm (su v0 0 0 0) (fun u1 =>
bd (m_X12_in n x1 1 60) (fun t2 =>
bd ((if t2 = 0 then
some 1
else
some 0)) (fun (t3 : Int32) =>
bd (m_X12_throwsIf n u1 t3 1) (fun t4 =>
(if t4.1 = 0 then
bd (m_X12_remembers n t4.2) (fun t5 =>
bd (m_X12_goneOnes n t5) (fun t6 =>
bd (m_J6_bitCount_0f7a4 n t6) (fun t7 =>
bd (lp (fun (rc11 : Int32 × St → Option (St)) (x11l : Int32 × St) =>
(if x1 ≤ x11l.1 then
some x11l.2
else
bd (m_X12_oneWeek n x11l.2 0) (fun t12 =>
rc11 ((x11l.1 + 1), t12)))) n (0, t5)) (fun (t8 : St) =>
bd (m_X12_goneOnes n t8) (fun t9 =>
bd (m_J6_bitCount_0f7a4 n t9) (fun t10 =>
some ((t10 - t7), t8)))))))
else
some (0, t4.2))))))
set_option maxHeartbeats 4000000 in
set_option maxRecDepth 100000 in
theorem c_X12_weeks (l : Launch) (D : va_G) (y : Nat → ClassId) (ek : EK) (n : Nat) (a0 : Nat → Nat) (v0 : St) (x1 : Int32) (res : Int32 × St) (hf : m_X12_weeks n v0 x1 = some res) : CI l yX12_weeks wX12_weeks { frames := 14, cells := 0, slots := 0, locals := 319 } D y ek [.ref (a0 0), .int x1] [bX12 y a0 v0] (res.1) [bX12 y a0 res.2] 0 0 := by
  unfold m_X12_weeks at hf
  refine ci_of (cc := cX12_weeks) (maxL := 4) (by decide) rfl rfl (Nat.le_of_ble_eq_true rfl) ?_
  intro p e s m below meth c Q A F hret
  refine a_lv (lv' := [(0, .ref (a0 0)), (1, .int x1)]) rfl ?_
  refine a_aloadn (pc := 0) (j := 0) F dX12_weeks_0 rfl rfl ?_
  refine a_iconst (pc := 1) F dX12_weeks_1 kc_0 ?_
  obtain ⟨u1, eu1, hf⟩ := nm_some hf
  refine a_put (pc := 2) (kb := 0) (j := 0) (f := 0) (ty := .int) (bs' := [bX12 y a0 u1]) F iW_X12 rfl rfl rfl (by decide) (tl q6_68) (fun _ h => h) tyX12 tyX12_ok nmX12 rfl rfl rfl rfl (Nat.le_of_ble_eq_true rfl) (by rw [eu1]; rfl) dX12_weeks_2 ?_
  refine a_aloadn (pc := 5) (j := 0) F dX12_weeks_5 rfl rfl ?_
  refine a_iloadn (pc := 6) (j := 1) F dX12_weeks_6 rfl rfl ?_
  refine a_iconst (pc := 7) F dX12_weeks_7 kc_1 ?_
  refine a_bipush (pc := 8) F dX12_weeks_8 kb_60 ?_
  obtain ⟨t2, ht2, hf⟩ := bd_some hf
  refine a_callS (pc := 10) (bs' := [bX12 y a0 u1]) F [] (c_X12_in l D y ek n  _ _ _ _ ht2) (va_cwS 3 F.1.2.2.2.2 (gS q7_77 q7_78 q1_11 q7_79) rfl rfl rfl (by decide +kernel) ⟨Nat.le_of_ble_eq_true rfl, Nat.le_of_ble_eq_true rfl⟩) (by decide) rfl rfl rfl rfl rfl rfl (Nat.le_of_ble_eq_true rfl) ⟨Nat.zero_le _, Nat.zero_le _⟩ dX12_weeks_10 ?_
  refine a_join 21 (fun (t3 : Int32) => [(0, .ref (a0 0)), (1, .int x1)]) (fun (t3 : Int32) => [.int t3, .ref (a0 0)]) (fun (t3 : Int32) => [bX12 y a0 u1]) hf (fun t3 hf => ?_) (fun t3 hf J3 => ?_)
  · try dsimp only at hf ⊢
    refine a_iconst (pc := 21) F dX12_weeks_21 kc_1 ?_
    obtain ⟨t4, ht4, hf⟩ := bd_some hf
    refine a_callV (pc := 22) (bs' := [bX12 y a0 t4.2]) (kb := 0) (j := 0) F [0] (c_X12_throwsIf l D y ek n a0 _ _ _ _ ht4) (cwV 2 F.1.2.2.2.2 (gV q7_61 q7_63 qs_52 q1_11 q7_64) rfl rfl rfl (by decide +kernel) ⟨Nat.le_of_ble_eq_true rfl, Nat.le_of_ble_eq_true rfl⟩) rfl rfl rfl rfl (by decide) rfl rfl rfl rfl rfl rfl (Nat.le_of_ble_eq_true rfl) ⟨Nat.zero_le _, Nat.zero_le _⟩ dX12_weeks_22 ?_
    refine a_if_eq (pc := 25) (tgt := 30) F dX12_weeks_25 (by decide) (fun h => ?_) (fun h => ?_)
    · replace hf := it_pos h hf
      refine a_aloadn (pc := 30) (j := 0) F dX12_weeks_30 rfl rfl ?_
      obtain ⟨t5, ht5, hf⟩ := bd_some hf
      refine a_callVv (pc := 31) (bs' := [bX12 y a0 t5]) (kb := 0) (j := 0) F [0] (c_X12_remembers l D y ek n a0 _ _ ht5) (cwV 0 F.1.2.2.2.2 (gV q7_203 q7_205 qs_79 q1_11 q7_206) rfl rfl rfl (by decide +kernel) ⟨Nat.le_of_ble_eq_true rfl, Nat.le_of_ble_eq_true rfl⟩) rfl rfl rfl rfl (by decide) rfl rfl rfl rfl rfl rfl (Nat.le_of_ble_eq_true rfl) ⟨Nat.zero_le _, Nat.zero_le _⟩ dX12_weeks_31 ?_
      refine a_aloadn (pc := 34) (j := 0) F dX12_weeks_34 rfl rfl ?_
      obtain ⟨t6, ht6, hf⟩ := bd_some hf
      refine a_callV (pc := 35) (bs' := [bX12 y a0 t5]) (kb := 0) (j := 0) F [0] (c_X12_goneOnes l D y ek n a0 _ _ ht6) (cwV 0 F.1.2.2.2.2 (gV q8_32 q8_34 qs_87 q1_11 q8_35) rfl rfl rfl (by decide +kernel) ⟨Nat.le_of_ble_eq_true rfl, Nat.le_of_ble_eq_true rfl⟩) rfl rfl rfl rfl (by decide) rfl rfl rfl rfl rfl rfl (Nat.le_of_ble_eq_true rfl) ⟨Nat.zero_le _, Nat.zero_le _⟩ dX12_weeks_35 ?_
      obtain ⟨t7, ht7, hf⟩ := bd_some hf
      refine a_callS (pc := 38) (bs' := [bX12 y a0 t5]) F [] (c_J6_bitCount_0f7a4 l D y ek n  _ _ ht7) (va_cwS 1 F.1.2.2.2.2 (gS q8_23 q5_100 q1_26 q5_101) rfl rfl rfl (by decide +kernel) ⟨Nat.le_of_ble_eq_true rfl, Nat.le_of_ble_eq_true rfl⟩) (by decide) rfl rfl rfl rfl rfl rfl (Nat.le_of_ble_eq_true rfl) ⟨Nat.zero_le _, Nat.zero_le _⟩ dX12_weeks_38 ?_
      refine a_istoren (pc := 41) (lv' := [(0, .ref (a0 0)), (1, .int x1), (2, .int t7)]) F [1, 2, 0] dX12_weeks_41 rfl (by decide) rfl ?_
      refine a_iconst (pc := 42) F dX12_weeks_42 kc_0 ?_
      refine a_istoren (pc := 43) (lv' := [(0, .ref (a0 0)), (1, .int x1), (2, .int t7), (3, .int 0)]) F [1, 2, 3, 0] dX12_weeks_43 rfl (by decide) rfl ?_
      refine a_join 60 (fun (t8 : St) => [(0, .ref (a0 0)), (2, .int t7)]) (fun (t8 : St) => []) (fun (t8 : St) => [bX12 y a0 t8]) hf (fun t8 hf => ?_) (fun t8 hf J8 => ?_)
      · try dsimp only at hf ⊢
        refine a_aloadn (pc := 60) (j := 0) F dX12_weeks_60 rfl rfl ?_
        obtain ⟨t9, ht9, hf⟩ := bd_some hf
        refine a_callV (pc := 61) (bs' := [bX12 y a0 t8]) (kb := 0) (j := 0) F [0] (c_X12_goneOnes l D y ek n a0 _ _ ht9) (cwV 0 F.1.2.2.2.2 (gV q8_32 q8_34 qs_87 q1_11 q8_35) rfl rfl rfl (by decide +kernel) ⟨Nat.le_of_ble_eq_true rfl, Nat.le_of_ble_eq_true rfl⟩) rfl rfl rfl rfl (by decide) rfl rfl rfl rfl rfl rfl (Nat.le_of_ble_eq_true rfl) ⟨Nat.zero_le _, Nat.zero_le _⟩ dX12_weeks_61 ?_
        obtain ⟨t10, ht10, hf⟩ := bd_some hf
        refine a_callS (pc := 64) (bs' := [bX12 y a0 t8]) F [] (c_J6_bitCount_0f7a4 l D y ek n  _ _ ht10) (va_cwS 1 F.1.2.2.2.2 (gS q8_23 q5_100 q1_26 q5_101) rfl rfl rfl (by decide +kernel) ⟨Nat.le_of_ble_eq_true rfl, Nat.le_of_ble_eq_true rfl⟩) (by decide) rfl rfl rfl rfl rfl rfl (Nat.le_of_ble_eq_true rfl) ⟨Nat.zero_le _, Nat.zero_le _⟩ dX12_weeks_64 ?_
        refine a_iloadn (pc := 67) (j := 1) F dX12_weeks_67 rfl rfl ?_
        refine a_isub (pc := 68) F dX12_weeks_68 ?_
        obtain rfl := Option.some.inj hf
        exact hret _ _ _ _ (Nat.zero_le _) (Nat.zero_le _) rfl dX12_weeks_69
      · refine a_loop 44 (fun (x11l : Int32 × St) => [(0, .ref (a0 0)), (1, .int x1), (2, .int t7), (3, .int x11l.1)]) (fun (x11l : Int32 × St) => [bX12 y a0 x11l.2]) (fun rc11 x11l ih11 hf => ?_) hf rfl rfl
        try dsimp only at hf ⊢
        refine a_iloadn (pc := 44) (j := 3) F dX12_weeks_44 rfl rfl ?_
        refine a_iloadn (pc := 45) (j := 1) F dX12_weeks_45 rfl rfl ?_
        refine a_icmp_ge (pc := 46) (tgt := 60) F dX12_weeks_46 (by decide) (fun h => ?_) (fun h => ?_)
        · replace hf := it_pos h hf
          refine a_sub [0, 2] rfl ?_
          obtain rfl := Option.some.inj hf
          exact J8
        · replace hf := it_neg h hf
          refine a_aloadn (pc := 49) (j := 0) F dX12_weeks_49 rfl rfl ?_
          refine a_iconst (pc := 50) F dX12_weeks_50 kc_0 ?_
          obtain ⟨t12, ht12, hf⟩ := bd_some hf
          refine a_callVv (pc := 51) (bs' := [bX12 y a0 t12]) (kb := 0) (j := 0) F [0] (c_X12_oneWeek l D y ek n a0 _ _ _ ht12) (cwV 1 F.1.2.2.2.2 (gV q8_36 q8_38 qs_88 q1_11 q8_39) rfl rfl rfl (by decide +kernel) ⟨Nat.le_of_ble_eq_true rfl, Nat.le_of_ble_eq_true rfl⟩) rfl rfl rfl rfl (by decide) rfl rfl rfl rfl rfl rfl (Nat.le_of_ble_eq_true rfl) ⟨Nat.zero_le _, Nat.zero_le _⟩ dX12_weeks_51 ?_
          refine a_iinc (pc := 54) (j := 3) (v := (x11l.1 + 1)) (lv' := [(0, .ref (a0 0)), (1, .int x1), (2, .int t7), (3, .int (x11l.1 + 1))]) F [1, 2, 3, 0] dX12_weeks_54 rfl ki_1 (by decide) rfl ?_
          refine a_goto (pc := 57) (tgt := 44) F dX12_weeks_57 (by decide) ?_
          exact ih11 ((x11l.1 + 1), t12) hf
    · replace hf := it_neg h hf
      refine a_iconst (pc := 28) F dX12_weeks_28 kc_0 ?_
      obtain rfl := Option.some.inj hf
      exact hret _ _ _ _ (Nat.zero_le _) (Nat.zero_le _) rfl dX12_weeks_29
  · refine a_if_ne (pc := 13) (tgt := 20) F dX12_weeks_13 (by decide) (fun h => ?_) (fun h => ?_)
    · replace hf := it_neg h hf
      refine a_iconst (pc := 20) F dX12_weeks_20 kc_0 ?_
      obtain rfl := Option.some.inj hf
      exact J3
    · replace hf := it_pos h hf
      refine a_iconst (pc := 16) F dX12_weeks_16 kc_1 ?_
      refine a_goto (pc := 17) (tgt := 21) F dX12_weeks_17 (by decide) ?_
      obtain rfl := Option.some.inj hf
      exact J3

abbrev wX12_goesAhead : List Cond := Cond.code yX12_goesAhead cX12_goesAhead 3 none :: WALL
def m_X12_goesAhead (n : Nat) (v0 : St) (x1 : Int32) : Option (St) :=
bd (m_X12_keepsAll n v0) (fun t1 =>
lp (fun (rc2 : Int32 × St → Option (St)) (x2l : Int32 × St) =>
(if x1 ≤ x2l.1 then
some x2l.2
else
bd (m_X12_oneWeek n x2l.2 1) (fun t3 =>
rc2 ((x2l.1 + 1), t3)))) n (0, t1))
set_option maxHeartbeats 4000000 in
set_option maxRecDepth 100000 in
theorem c_X12_goesAhead (l : Launch) (D : va_G) (y : Nat → ClassId) (ek : EK) (n : Nat) (a0 : Nat → Nat) (v0 : St) (x1 : Int32) (res : St) (hf : m_X12_goesAhead n v0 x1 = some res) : CV l yX12_goesAhead wX12_goesAhead { frames := 14, cells := 0, slots := 0, locals := 319 } D y ek [.ref (a0 0), .int x1] [bX12 y a0 v0] [bX12 y a0 res] 0 0 := by
  unfold m_X12_goesAhead at hf
  refine cv_of (cc := cX12_goesAhead) (maxL := 3) (by decide) rfl rfl (Nat.le_of_ble_eq_true rfl) ?_
  intro p e s m below meth c Q A F hret
  refine a_lv (lv' := [(0, .ref (a0 0)), (1, .int x1)]) rfl ?_
  refine a_aloadn (pc := 0) (j := 0) F dX12_goesAhead_0 rfl rfl ?_
  obtain ⟨t1, ht1, hf⟩ := bd_some hf
  refine a_callVv (pc := 1) (bs' := [bX12 y a0 t1]) (kb := 0) (j := 0) F [0] (c_X12_keepsAll l D y ek n a0 _ _ ht1) (cwV 0 F.1.2.2.2.2 (gV q8_3 q8_5 qs_82 q1_11 q8_6) rfl rfl rfl (by decide +kernel) ⟨Nat.le_of_ble_eq_true rfl, Nat.le_of_ble_eq_true rfl⟩) rfl rfl rfl rfl (by decide) rfl rfl rfl rfl rfl rfl (Nat.le_of_ble_eq_true rfl) ⟨Nat.zero_le _, Nat.zero_le _⟩ dX12_goesAhead_1 ?_
  refine a_iconst (pc := 4) F dX12_goesAhead_4 kc_0 ?_
  refine a_istoren (pc := 5) (lv' := [(0, .ref (a0 0)), (1, .int x1), (2, .int 0)]) F [1, 2, 0] dX12_goesAhead_5 rfl (by decide) rfl ?_
  refine a_loop 6 (fun (x2l : Int32 × St) => [(0, .ref (a0 0)), (1, .int x1), (2, .int x2l.1)]) (fun (x2l : Int32 × St) => [bX12 y a0 x2l.2]) (fun rc2 x2l ih2 hf => ?_) hf rfl rfl
  try dsimp only at hf ⊢
  refine a_iloadn (pc := 6) (j := 2) F dX12_goesAhead_6 rfl rfl ?_
  refine a_iloadn (pc := 7) (j := 1) F dX12_goesAhead_7 rfl rfl ?_
  refine a_icmp_ge (pc := 8) (tgt := 22) F dX12_goesAhead_8 (by decide) (fun h => ?_) (fun h => ?_)
  · replace hf := it_pos h hf
    obtain rfl := Option.some.inj hf
    exact hret _ _ _ _ (Nat.zero_le _) (Nat.zero_le _) dX12_goesAhead_22
  · replace hf := it_neg h hf
    refine a_aloadn (pc := 11) (j := 0) F dX12_goesAhead_11 rfl rfl ?_
    refine a_iconst (pc := 12) F dX12_goesAhead_12 kc_1 ?_
    obtain ⟨t3, ht3, hf⟩ := bd_some hf
    refine a_callVv (pc := 13) (bs' := [bX12 y a0 t3]) (kb := 0) (j := 0) F [0] (c_X12_oneWeek l D y ek n a0 _ _ _ ht3) (cwV 1 F.1.2.2.2.2 (gV q8_36 q8_38 qs_88 q1_11 q8_39) rfl rfl rfl (by decide +kernel) ⟨Nat.le_of_ble_eq_true rfl, Nat.le_of_ble_eq_true rfl⟩) rfl rfl rfl rfl (by decide) rfl rfl rfl rfl rfl rfl (Nat.le_of_ble_eq_true rfl) ⟨Nat.zero_le _, Nat.zero_le _⟩ dX12_goesAhead_13 ?_
    refine a_iinc (pc := 16) (j := 2) (v := (x2l.1 + 1)) (lv' := [(0, .ref (a0 0)), (1, .int x1), (2, .int (x2l.1 + 1))]) F [1, 2, 0] dX12_goesAhead_16 rfl ki_1 (by decide) rfl ?_
    refine a_goto (pc := 19) (tgt := 6) F dX12_goesAhead_19 (by decide) ?_
    exact ih2 ((x2l.1 + 1), t3) hf

abbrev wX12_ahead : List Cond := Cond.code yX12_ahead cX12_ahead 5 (some .int) :: WALL
def m_X12_ahead (n : Nat) (v0 : St) (x1 : Int32) (x2 : Int32) (x3 : Int32) : Option (Int32 × St) :=
nm (su v0 0 0 0) (fun u1 =>
bd (m_X12_noHouse n u1 x1) (fun t2 =>
bd (m_X12_throwsIf n u1 t2 1) (fun t3 =>
(if t3.1 = 0 then
bd (m_X12_in n x2 0 100) (fun t4 =>
bd ((if t4 = 0 then
some 1
else
some 0)) (fun (t5 : Int32) =>
bd (m_X12_throwsIf n t3.2 t5 2) (fun t6 =>
(if t6.1 = 0 then
bd (m_X12_goesAhead n t6.2 x2) (fun t7 =>
bd ((if x3 = 0 then
bd (m_X12_heightOf n t7 x1) (fun t10 =>
some t10)
else
bd (m_X12_of n t7 x1 0) (fun t11 =>
some t11))) (fun (t8 : Int32) =>
bd (m_X12_bringsBack n t7) (fun t9 =>
some (t8, t9))))
else
some (0, t6.2)))))
else
some (0, t3.2)))))
set_option maxHeartbeats 4000000 in
set_option maxRecDepth 100000 in
theorem c_X12_ahead (l : Launch) (D : va_G) (y : Nat → ClassId) (ek : EK) (n : Nat) (a0 : Nat → Nat) (v0 : St) (x1 : Int32) (x2 : Int32) (x3 : Int32) (res : Int32 × St) (hf : m_X12_ahead n v0 x1 x2 x3 = some res) : CI l yX12_ahead wX12_ahead { frames := 15, cells := 0, slots := 0, locals := 341 } D y ek [.ref (a0 0), .int x1, .int x2, .int x3] [bX12 y a0 v0] (res.1) [bX12 y a0 res.2] 0 0 := by
  unfold m_X12_ahead at hf
  refine ci_of (cc := cX12_ahead) (maxL := 5) (by decide) rfl rfl (Nat.le_of_ble_eq_true rfl) ?_
  intro p e s m below meth c Q A F hret
  refine a_lv (lv' := [(0, .ref (a0 0)), (1, .int x1), (2, .int x2), (3, .int x3)]) rfl ?_
  refine a_aloadn (pc := 0) (j := 0) F dX12_ahead_0 rfl rfl ?_
  refine a_iconst (pc := 1) F dX12_ahead_1 kc_0 ?_
  obtain ⟨u1, eu1, hf⟩ := nm_some hf
  refine a_put (pc := 2) (kb := 0) (j := 0) (f := 0) (ty := .int) (bs' := [bX12 y a0 u1]) F iW_X12 rfl rfl rfl (by decide) (tl q6_68) (fun _ h => h) tyX12 tyX12_ok nmX12 rfl rfl rfl rfl (Nat.le_of_ble_eq_true rfl) (by rw [eu1]; rfl) dX12_ahead_2 ?_
  refine a_aloadn (pc := 5) (j := 0) F dX12_ahead_5 rfl rfl ?_
  refine a_aloadn (pc := 6) (j := 0) F dX12_ahead_6 rfl rfl ?_
  refine a_iloadn (pc := 7) (j := 1) F dX12_ahead_7 rfl rfl ?_
  obtain ⟨t2, ht2, hf⟩ := bd_some hf
  refine a_callV (pc := 8) (bs' := [bX12 y a0 u1]) (kb := 0) (j := 0) F [0] (c_X12_noHouse l D y ek n a0 _ _ _ ht2) (cwV 1 F.1.2.2.2.2 (gV q7_159 q7_161 qs_70 q1_11 q7_162) rfl rfl rfl (by decide +kernel) ⟨Nat.le_of_ble_eq_true rfl, Nat.le_of_ble_eq_true rfl⟩) rfl rfl rfl rfl (by decide) rfl rfl rfl rfl rfl rfl (Nat.le_of_ble_eq_true rfl) ⟨Nat.zero_le _, Nat.zero_le _⟩ dX12_ahead_8 ?_
  refine a_iconst (pc := 11) F dX12_ahead_11 kc_1 ?_
  obtain ⟨t3, ht3, hf⟩ := bd_some hf
  refine a_callV (pc := 12) (bs' := [bX12 y a0 t3.2]) (kb := 0) (j := 0) F [0] (c_X12_throwsIf l D y ek n a0 _ _ _ _ ht3) (cwV 2 F.1.2.2.2.2 (gV q7_61 q7_63 qs_52 q1_11 q7_64) rfl rfl rfl (by decide +kernel) ⟨Nat.le_of_ble_eq_true rfl, Nat.le_of_ble_eq_true rfl⟩) rfl rfl rfl rfl (by decide) rfl rfl rfl rfl rfl rfl (Nat.le_of_ble_eq_true rfl) ⟨Nat.zero_le _, Nat.zero_le _⟩ dX12_ahead_12 ?_
  refine a_if_ne (pc := 15) (tgt := 41) F dX12_ahead_15 (by decide) (fun h => ?_) (fun h => ?_)
  · replace hf := it_neg h hf
    refine a_iconst (pc := 41) F dX12_ahead_41 kc_0 ?_
    obtain rfl := Option.some.inj hf
    exact hret _ _ _ _ (Nat.zero_le _) (Nat.zero_le _) rfl dX12_ahead_42
  · replace hf := it_pos h hf
    refine a_aloadn (pc := 18) (j := 0) F dX12_ahead_18 rfl rfl ?_
    refine a_iloadn (pc := 19) (j := 2) F dX12_ahead_19 rfl rfl ?_
    refine a_iconst (pc := 20) F dX12_ahead_20 kc_0 ?_
    refine a_bipush (pc := 21) F dX12_ahead_21 kb_100 ?_
    obtain ⟨t4, ht4, hf⟩ := bd_some hf
    refine a_callS (pc := 23) (bs' := [bX12 y a0 t3.2]) F [] (c_X12_in l D y ek n  _ _ _ _ ht4) (va_cwS 3 F.1.2.2.2.2 (gS q7_77 q7_78 q1_11 q7_79) rfl rfl rfl (by decide +kernel) ⟨Nat.le_of_ble_eq_true rfl, Nat.le_of_ble_eq_true rfl⟩) (by decide) rfl rfl rfl rfl rfl rfl (Nat.le_of_ble_eq_true rfl) ⟨Nat.zero_le _, Nat.zero_le _⟩ dX12_ahead_23 ?_
    refine a_join 34 (fun (t5 : Int32) => [(0, .ref (a0 0)), (1, .int x1), (2, .int x2), (3, .int x3)]) (fun (t5 : Int32) => [.int t5, .ref (a0 0)]) (fun (t5 : Int32) => [bX12 y a0 t3.2]) hf (fun t5 hf => ?_) (fun t5 hf J5 => ?_)
    · try dsimp only at hf ⊢
      refine a_iconst (pc := 34) F dX12_ahead_34 kc_2 ?_
      obtain ⟨t6, ht6, hf⟩ := bd_some hf
      refine a_callV (pc := 35) (bs' := [bX12 y a0 t6.2]) (kb := 0) (j := 0) F [0] (c_X12_throwsIf l D y ek n a0 _ _ _ _ ht6) (cwV 2 F.1.2.2.2.2 (gV q7_61 q7_63 qs_52 q1_11 q7_64) rfl rfl rfl (by decide +kernel) ⟨Nat.le_of_ble_eq_true rfl, Nat.le_of_ble_eq_true rfl⟩) rfl rfl rfl rfl (by decide) rfl rfl rfl rfl rfl rfl (Nat.le_of_ble_eq_true rfl) ⟨Nat.zero_le _, Nat.zero_le _⟩ dX12_ahead_35 ?_
      refine a_if_eq (pc := 38) (tgt := 43) F dX12_ahead_38 (by decide) (fun h => ?_) (fun h => ?_)
      · replace hf := it_pos h hf
        refine a_aloadn (pc := 43) (j := 0) F dX12_ahead_43 rfl rfl ?_
        refine a_iloadn (pc := 44) (j := 2) F dX12_ahead_44 rfl rfl ?_
        obtain ⟨t7, ht7, hf⟩ := bd_some hf
        refine a_callVv (pc := 45) (bs' := [bX12 y a0 t7]) (kb := 0) (j := 0) F [0] (c_X12_goesAhead l D y ek n a0 _ _ _ ht7) (cwV 1 F.1.2.2.2.2 (gV q8_57 q8_59 qs_92 q1_11 q8_60) rfl rfl rfl (by decide +kernel) ⟨Nat.le_of_ble_eq_true rfl, Nat.le_of_ble_eq_true rfl⟩) rfl rfl rfl rfl (by decide) rfl rfl rfl rfl rfl rfl (Nat.le_of_ble_eq_true rfl) ⟨Nat.zero_le _, Nat.zero_le _⟩ dX12_ahead_45 ?_
        refine a_iloadn (pc := 48) (j := 3) F dX12_ahead_48 rfl rfl ?_
        refine a_join 66 (fun (t8 : Int32) => [(0, .ref (a0 0))]) (fun (t8 : Int32) => [.int t8]) (fun (t8 : Int32) => [bX12 y a0 t7]) hf (fun t8 hf => ?_) (fun t8 hf J8 => ?_)
        · try dsimp only at hf ⊢
          refine a_istore (pc := 66) (lv' := [(0, .ref (a0 0)), (4, .int t8)]) F [1, 0] dX12_ahead_66 (by decide) rfl ?_
          refine a_aloadn (pc := 68) (j := 0) F dX12_ahead_68 rfl rfl ?_
          obtain ⟨t9, ht9, hf⟩ := bd_some hf
          refine a_callVv (pc := 69) (bs' := [bX12 y a0 t9]) (kb := 0) (j := 0) F [0] (c_X12_bringsBack l D y ek n a0 _ _ ht9) (cwV 0 F.1.2.2.2.2 (gV q8_15 q8_17 qs_85 q1_11 q8_18) rfl rfl rfl (by decide +kernel) ⟨Nat.le_of_ble_eq_true rfl, Nat.le_of_ble_eq_true rfl⟩) rfl rfl rfl rfl (by decide) rfl rfl rfl rfl rfl rfl (Nat.le_of_ble_eq_true rfl) ⟨Nat.zero_le _, Nat.zero_le _⟩ dX12_ahead_69 ?_
          refine a_iload (pc := 72) (j := 1) F dX12_ahead_72 rfl ?_
          obtain rfl := Option.some.inj hf
          exact hret _ _ _ _ (Nat.zero_le _) (Nat.zero_le _) rfl dX12_ahead_74
        · refine a_if_eq (pc := 49) (tgt := 61) F dX12_ahead_49 (by decide) (fun h => ?_) (fun h => ?_)
          · replace hf := it_pos h hf
            refine a_aloadn (pc := 61) (j := 0) F dX12_ahead_61 rfl rfl ?_
            refine a_iloadn (pc := 62) (j := 1) F dX12_ahead_62 rfl rfl ?_
            obtain ⟨t10, ht10, hf⟩ := bd_some hf
            refine a_callV (pc := 63) (bs' := [bX12 y a0 t7]) (kb := 0) (j := 0) F [0] (c_X12_heightOf l D y ek n a0 _ _ _ ht10) (cwV 1 F.1.2.2.2.2 (gV q7_145 q7_147 qs_69 q1_11 q7_148) rfl rfl rfl (by decide +kernel) ⟨Nat.le_of_ble_eq_true rfl, Nat.le_of_ble_eq_true rfl⟩) rfl rfl rfl rfl (by decide) rfl rfl rfl rfl rfl rfl (Nat.le_of_ble_eq_true rfl) ⟨Nat.zero_le _, Nat.zero_le _⟩ dX12_ahead_63 ?_
            refine a_sub [0] rfl ?_
            obtain rfl := Option.some.inj hf
            exact J8
          · replace hf := it_neg h hf
            refine a_aloadn (pc := 52) (j := 0) F dX12_ahead_52 rfl rfl ?_
            refine a_iloadn (pc := 53) (j := 1) F dX12_ahead_53 rfl rfl ?_
            refine a_iconst (pc := 54) F dX12_ahead_54 kc_0 ?_
            obtain ⟨t11, ht11, hf⟩ := bd_some hf
            refine a_callV (pc := 55) (bs' := [bX12 y a0 t7]) (kb := 0) (j := 0) F [0] (c_X12_of l D y ek n a0 _ _ _ _ ht11) (cwV 2 F.1.2.2.2.2 (gV q7_111 q7_113 qs_61 q1_11 q7_114) rfl rfl rfl (by decide +kernel) ⟨Nat.le_of_ble_eq_true rfl, Nat.le_of_ble_eq_true rfl⟩) rfl rfl rfl rfl (by decide) rfl rfl rfl rfl rfl rfl (Nat.le_of_ble_eq_true rfl) ⟨Nat.zero_le _, Nat.zero_le _⟩ dX12_ahead_55 ?_
            refine a_goto (pc := 58) (tgt := 66) F dX12_ahead_58 (by decide) ?_
            refine a_sub [0] rfl ?_
            obtain rfl := Option.some.inj hf
            exact J8
      · replace hf := it_neg h hf
        refine a_iconst (pc := 41) F dX12_ahead_41 kc_0 ?_
        obtain rfl := Option.some.inj hf
        exact hret _ _ _ _ (Nat.zero_le _) (Nat.zero_le _) rfl dX12_ahead_42
    · refine a_if_ne (pc := 26) (tgt := 33) F dX12_ahead_26 (by decide) (fun h => ?_) (fun h => ?_)
      · replace hf := it_neg h hf
        refine a_iconst (pc := 33) F dX12_ahead_33 kc_0 ?_
        obtain rfl := Option.some.inj hf
        exact J5
      · replace hf := it_pos h hf
        refine a_iconst (pc := 29) F dX12_ahead_29 kc_1 ?_
        refine a_goto (pc := 30) (tgt := 34) F dX12_ahead_30 (by decide) ?_
        obtain rfl := Option.some.inj hf
        exact J5

abbrev wX12_rent : List Cond := Cond.code yX12_rent cX12_rent 5 (some .int) :: WALL
def m_X12_rent (n : Nat) (v0 : St) (x1 : Int32) (x2 : Int32) : Option (Int32 × St) :=
nm (su v0 0 0 0) (fun u1 =>
bd (m_X12_noHouse n u1 x1) (fun t2 =>
bd (m_X12_throwsIf n u1 t2 1) (fun t3 =>
(if t3.1 = 0 then
bd (m_X12_in n x2 0 100) (fun t4 =>
bd ((if t4 = 0 then
some 1
else
some 0)) (fun (t5 : Int32) =>
bd (m_X12_throwsIf n t3.2 t5 2) (fun t6 =>
(if t6.1 = 0 then
bd (m_X12_of n t6.2 x1 0) (fun t7 =>
bd (m_X12_goesAhead n t6.2 x2) (fun t8 =>
bd (m_X12_of n t8 x1 0) (fun t9 =>
nm (t7 - t9) (fun x4_10 =>
bd (m_X12_bringsBack n t8) (fun t11 =>
some (x4_10, t11))))))
else
some (0, t6.2)))))
else
some (0, t3.2)))))
set_option maxHeartbeats 4000000 in
set_option maxRecDepth 100000 in
theorem c_X12_rent (l : Launch) (D : va_G) (y : Nat → ClassId) (ek : EK) (n : Nat) (a0 : Nat → Nat) (v0 : St) (x1 : Int32) (x2 : Int32) (res : Int32 × St) (hf : m_X12_rent n v0 x1 x2 = some res) : CI l yX12_rent wX12_rent { frames := 15, cells := 0, slots := 0, locals := 341 } D y ek [.ref (a0 0), .int x1, .int x2] [bX12 y a0 v0] (res.1) [bX12 y a0 res.2] 0 0 := by
  unfold m_X12_rent at hf
  refine ci_of (cc := cX12_rent) (maxL := 5) (by decide) rfl rfl (Nat.le_of_ble_eq_true rfl) ?_
  intro p e s m below meth c Q A F hret
  refine a_lv (lv' := [(0, .ref (a0 0)), (1, .int x1), (2, .int x2)]) rfl ?_
  refine a_aloadn (pc := 0) (j := 0) F dX12_rent_0 rfl rfl ?_
  refine a_iconst (pc := 1) F dX12_rent_1 kc_0 ?_
  obtain ⟨u1, eu1, hf⟩ := nm_some hf
  refine a_put (pc := 2) (kb := 0) (j := 0) (f := 0) (ty := .int) (bs' := [bX12 y a0 u1]) F iW_X12 rfl rfl rfl (by decide) (tl q6_68) (fun _ h => h) tyX12 tyX12_ok nmX12 rfl rfl rfl rfl (Nat.le_of_ble_eq_true rfl) (by rw [eu1]; rfl) dX12_rent_2 ?_
  refine a_aloadn (pc := 5) (j := 0) F dX12_rent_5 rfl rfl ?_
  refine a_aloadn (pc := 6) (j := 0) F dX12_rent_6 rfl rfl ?_
  refine a_iloadn (pc := 7) (j := 1) F dX12_rent_7 rfl rfl ?_
  obtain ⟨t2, ht2, hf⟩ := bd_some hf
  refine a_callV (pc := 8) (bs' := [bX12 y a0 u1]) (kb := 0) (j := 0) F [0] (c_X12_noHouse l D y ek n a0 _ _ _ ht2) (cwV 1 F.1.2.2.2.2 (gV q7_159 q7_161 qs_70 q1_11 q7_162) rfl rfl rfl (by decide +kernel) ⟨Nat.le_of_ble_eq_true rfl, Nat.le_of_ble_eq_true rfl⟩) rfl rfl rfl rfl (by decide) rfl rfl rfl rfl rfl rfl (Nat.le_of_ble_eq_true rfl) ⟨Nat.zero_le _, Nat.zero_le _⟩ dX12_rent_8 ?_
  refine a_iconst (pc := 11) F dX12_rent_11 kc_1 ?_
  obtain ⟨t3, ht3, hf⟩ := bd_some hf
  refine a_callV (pc := 12) (bs' := [bX12 y a0 t3.2]) (kb := 0) (j := 0) F [0] (c_X12_throwsIf l D y ek n a0 _ _ _ _ ht3) (cwV 2 F.1.2.2.2.2 (gV q7_61 q7_63 qs_52 q1_11 q7_64) rfl rfl rfl (by decide +kernel) ⟨Nat.le_of_ble_eq_true rfl, Nat.le_of_ble_eq_true rfl⟩) rfl rfl rfl rfl (by decide) rfl rfl rfl rfl rfl rfl (Nat.le_of_ble_eq_true rfl) ⟨Nat.zero_le _, Nat.zero_le _⟩ dX12_rent_12 ?_
  refine a_if_ne (pc := 15) (tgt := 41) F dX12_rent_15 (by decide) (fun h => ?_) (fun h => ?_)
  · replace hf := it_neg h hf
    refine a_iconst (pc := 41) F dX12_rent_41 kc_0 ?_
    obtain rfl := Option.some.inj hf
    exact hret _ _ _ _ (Nat.zero_le _) (Nat.zero_le _) rfl dX12_rent_42
  · replace hf := it_pos h hf
    refine a_aloadn (pc := 18) (j := 0) F dX12_rent_18 rfl rfl ?_
    refine a_iloadn (pc := 19) (j := 2) F dX12_rent_19 rfl rfl ?_
    refine a_iconst (pc := 20) F dX12_rent_20 kc_0 ?_
    refine a_bipush (pc := 21) F dX12_rent_21 kb_100 ?_
    obtain ⟨t4, ht4, hf⟩ := bd_some hf
    refine a_callS (pc := 23) (bs' := [bX12 y a0 t3.2]) F [] (c_X12_in l D y ek n  _ _ _ _ ht4) (va_cwS 3 F.1.2.2.2.2 (gS q7_77 q7_78 q1_11 q7_79) rfl rfl rfl (by decide +kernel) ⟨Nat.le_of_ble_eq_true rfl, Nat.le_of_ble_eq_true rfl⟩) (by decide) rfl rfl rfl rfl rfl rfl (Nat.le_of_ble_eq_true rfl) ⟨Nat.zero_le _, Nat.zero_le _⟩ dX12_rent_23 ?_
    refine a_join 34 (fun (t5 : Int32) => [(0, .ref (a0 0)), (1, .int x1), (2, .int x2)]) (fun (t5 : Int32) => [.int t5, .ref (a0 0)]) (fun (t5 : Int32) => [bX12 y a0 t3.2]) hf (fun t5 hf => ?_) (fun t5 hf J5 => ?_)
    · try dsimp only at hf ⊢
      refine a_iconst (pc := 34) F dX12_rent_34 kc_2 ?_
      obtain ⟨t6, ht6, hf⟩ := bd_some hf
      refine a_callV (pc := 35) (bs' := [bX12 y a0 t6.2]) (kb := 0) (j := 0) F [0] (c_X12_throwsIf l D y ek n a0 _ _ _ _ ht6) (cwV 2 F.1.2.2.2.2 (gV q7_61 q7_63 qs_52 q1_11 q7_64) rfl rfl rfl (by decide +kernel) ⟨Nat.le_of_ble_eq_true rfl, Nat.le_of_ble_eq_true rfl⟩) rfl rfl rfl rfl (by decide) rfl rfl rfl rfl rfl rfl (Nat.le_of_ble_eq_true rfl) ⟨Nat.zero_le _, Nat.zero_le _⟩ dX12_rent_35 ?_
      refine a_if_eq (pc := 38) (tgt := 43) F dX12_rent_38 (by decide) (fun h => ?_) (fun h => ?_)
      · replace hf := it_pos h hf
        refine a_aloadn (pc := 43) (j := 0) F dX12_rent_43 rfl rfl ?_
        refine a_iloadn (pc := 44) (j := 1) F dX12_rent_44 rfl rfl ?_
        refine a_iconst (pc := 45) F dX12_rent_45 kc_0 ?_
        obtain ⟨t7, ht7, hf⟩ := bd_some hf
        refine a_callV (pc := 46) (bs' := [bX12 y a0 t6.2]) (kb := 0) (j := 0) F [0] (c_X12_of l D y ek n a0 _ _ _ _ ht7) (cwV 2 F.1.2.2.2.2 (gV q7_111 q7_113 qs_61 q1_11 q7_114) rfl rfl rfl (by decide +kernel) ⟨Nat.le_of_ble_eq_true rfl, Nat.le_of_ble_eq_true rfl⟩) rfl rfl rfl rfl (by decide) rfl rfl rfl rfl rfl rfl (Nat.le_of_ble_eq_true rfl) ⟨Nat.zero_le _, Nat.zero_le _⟩ dX12_rent_46 ?_
        refine a_istoren (pc := 49) (lv' := [(0, .ref (a0 0)), (1, .int x1), (2, .int x2), (3, .int t7)]) F [1, 2, 3, 0] dX12_rent_49 rfl (by decide) rfl ?_
        refine a_aloadn (pc := 50) (j := 0) F dX12_rent_50 rfl rfl ?_
        refine a_iloadn (pc := 51) (j := 2) F dX12_rent_51 rfl rfl ?_
        obtain ⟨t8, ht8, hf⟩ := bd_some hf
        refine a_callVv (pc := 52) (bs' := [bX12 y a0 t8]) (kb := 0) (j := 0) F [0] (c_X12_goesAhead l D y ek n a0 _ _ _ ht8) (cwV 1 F.1.2.2.2.2 (gV q8_57 q8_59 qs_92 q1_11 q8_60) rfl rfl rfl (by decide +kernel) ⟨Nat.le_of_ble_eq_true rfl, Nat.le_of_ble_eq_true rfl⟩) rfl rfl rfl rfl (by decide) rfl rfl rfl rfl rfl rfl (Nat.le_of_ble_eq_true rfl) ⟨Nat.zero_le _, Nat.zero_le _⟩ dX12_rent_52 ?_
        refine a_iloadn (pc := 55) (j := 3) F dX12_rent_55 rfl rfl ?_
        refine a_aloadn (pc := 56) (j := 0) F dX12_rent_56 rfl rfl ?_
        refine a_iloadn (pc := 57) (j := 1) F dX12_rent_57 rfl rfl ?_
        refine a_iconst (pc := 58) F dX12_rent_58 kc_0 ?_
        obtain ⟨t9, ht9, hf⟩ := bd_some hf
        refine a_callV (pc := 59) (bs' := [bX12 y a0 t8]) (kb := 0) (j := 0) F [0] (c_X12_of l D y ek n a0 _ _ _ _ ht9) (cwV 2 F.1.2.2.2.2 (gV q7_111 q7_113 qs_61 q1_11 q7_114) rfl rfl rfl (by decide +kernel) ⟨Nat.le_of_ble_eq_true rfl, Nat.le_of_ble_eq_true rfl⟩) rfl rfl rfl rfl (by decide) rfl rfl rfl rfl rfl rfl (Nat.le_of_ble_eq_true rfl) ⟨Nat.zero_le _, Nat.zero_le _⟩ dX12_rent_59 ?_
        refine a_isub (pc := 62) F dX12_rent_62 ?_
        obtain ⟨x4_10, ex4_10, hf⟩ := nm_some hf
        refine a_nmi ex4_10 ?_
        refine a_istore (pc := 63) (lv' := [(0, .ref (a0 0)), (1, .int x1), (2, .int x2), (3, .int t7), (4, .int x4_10)]) F [1, 2, 3, 4, 0] dX12_rent_63 (by decide) rfl ?_
        refine a_aloadn (pc := 65) (j := 0) F dX12_rent_65 rfl rfl ?_
        obtain ⟨t11, ht11, hf⟩ := bd_some hf
        refine a_callVv (pc := 66) (bs' := [bX12 y a0 t11]) (kb := 0) (j := 0) F [0] (c_X12_bringsBack l D y ek n a0 _ _ ht11) (cwV 0 F.1.2.2.2.2 (gV q8_15 q8_17 qs_85 q1_11 q8_18) rfl rfl rfl (by decide +kernel) ⟨Nat.le_of_ble_eq_true rfl, Nat.le_of_ble_eq_true rfl⟩) rfl rfl rfl rfl (by decide) rfl rfl rfl rfl rfl rfl (Nat.le_of_ble_eq_true rfl) ⟨Nat.zero_le _, Nat.zero_le _⟩ dX12_rent_66 ?_
        refine a_iload (pc := 69) (j := 4) F dX12_rent_69 rfl ?_
        obtain rfl := Option.some.inj hf
        exact hret _ _ _ _ (Nat.zero_le _) (Nat.zero_le _) rfl dX12_rent_71
      · replace hf := it_neg h hf
        refine a_iconst (pc := 41) F dX12_rent_41 kc_0 ?_
        obtain rfl := Option.some.inj hf
        exact hret _ _ _ _ (Nat.zero_le _) (Nat.zero_le _) rfl dX12_rent_42
    · refine a_if_ne (pc := 26) (tgt := 33) F dX12_rent_26 (by decide) (fun h => ?_) (fun h => ?_)
      · replace hf := it_neg h hf
        refine a_iconst (pc := 33) F dX12_rent_33 kc_0 ?_
        obtain rfl := Option.some.inj hf
        exact J5
      · replace hf := it_pos h hf
        refine a_iconst (pc := 29) F dX12_rent_29 kc_1 ?_
        refine a_goto (pc := 30) (tgt := 34) F dX12_rent_30 (by decide) ?_
        obtain rfl := Option.some.inj hf
        exact J5

abbrev wX12_isPoor : List Cond := Cond.code yX12_isPoor cX12_isPoor 3 (some .boolean) :: WALL
def m_X12_isPoor (n : Nat) (v0 : St) : Option (Int32) :=
lp (fun (rc1 : Int32 × Int32 → Option (Int32)) (x1l : Int32 × Int32) =>
bd (m_X12_houses n v0) (fun t2 =>
(if t2 ≤ x1l.2 then
(if isb x1l.1 then some x1l.1 else none)
else
bd (jn (fun (t4 : Unit) =>
some 1) (fun (K4 : Unit → Option (Int32)) =>
(if x1l.1 = 0 then
bd (m_X12_of n v0 x1l.2 0) (fun t5 =>
(if t5 = 0 then
K4 ()
else
some 0))
else
K4 ()))) (fun (t3 : Int32) =>
rc1 (t3, (x1l.2 + 1)))))) n (0, 0)
set_option maxHeartbeats 4000000 in
set_option maxRecDepth 100000 in
theorem c_X12_isPoor (l : Launch) (D : va_G) (y : Nat → ClassId) (ek : EK) (n : Nat) (a0 : Nat → Nat) (v0 : St) (res : Int32) (hf : m_X12_isPoor n v0 = some res) : CI l yX12_isPoor wX12_isPoor { frames := 2, cells := 0, slots := 0, locals := 43 } D y ek [.ref (a0 0)] [bX12 y a0 v0] (res) [bX12 y a0 v0] 0 0 := by
  unfold m_X12_isPoor at hf
  refine ci_of (cc := cX12_isPoor) (maxL := 3) (by decide) rfl rfl (Nat.le_of_ble_eq_true rfl) ?_
  intro p e s m below meth c Q A F hret
  refine a_lv (lv' := [(0, .ref (a0 0))]) rfl ?_
  refine a_iconst (pc := 0) F dX12_isPoor_0 kc_0 ?_
  refine a_istoren (pc := 1) (lv' := [(0, .ref (a0 0)), (1, .int 0)]) F [1, 0] dX12_isPoor_1 rfl (by decide) rfl ?_
  refine a_iconst (pc := 2) F dX12_isPoor_2 kc_0 ?_
  refine a_istoren (pc := 3) (lv' := [(0, .ref (a0 0)), (1, .int 0), (2, .int 0)]) F [1, 2, 0] dX12_isPoor_3 rfl (by decide) rfl ?_
  refine a_loop 4 (fun (x1l : Int32 × Int32) => [(0, .ref (a0 0)), (1, .int x1l.1), (2, .int x1l.2)]) (fun (x1l : Int32 × Int32) => [bX12 y a0 v0]) (fun rc1 x1l ih1 hf => ?_) hf rfl rfl
  try dsimp only at hf ⊢
  refine a_iloadn (pc := 4) (j := 2) F dX12_isPoor_4 rfl rfl ?_
  refine a_aloadn (pc := 5) (j := 0) F dX12_isPoor_5 rfl rfl ?_
  obtain ⟨t2, ht2, hf⟩ := bd_some hf
  refine a_callV (pc := 6) (bs' := [bX12 y a0 v0]) (kb := 0) (j := 0) F [0] (c_X12_houses l D y ek n a0 _ _ ht2) (cwV 0 F.1.2.2.2.2 (gV q6_220 q6_222 qs_38 q1_11 q6_223) rfl rfl rfl (by decide +kernel) ⟨Nat.le_of_ble_eq_true rfl, Nat.le_of_ble_eq_true rfl⟩) rfl rfl rfl rfl (by decide) rfl rfl rfl rfl rfl rfl (Nat.le_of_ble_eq_true rfl) ⟨Nat.zero_le _, Nat.zero_le _⟩ dX12_isPoor_6 ?_
  refine a_icmp_ge (pc := 9) (tgt := 37) F dX12_isPoor_9 (by decide) (fun h => ?_) (fun h => ?_)
  · replace hf := it_pos h hf
    refine a_iloadn (pc := 37) (j := 1) F dX12_isPoor_37 rfl rfl ?_
    obtain ⟨hz, hf⟩ := gd_some hf
    obtain rfl := Option.some.inj hf
    exact hret _ _ _ _ (Nat.zero_le _) (Nat.zero_le _) (z_nar hz) dX12_isPoor_38
  · replace hf := it_neg h hf
    refine a_iloadn (pc := 12) (j := 1) F dX12_isPoor_12 rfl rfl ?_
    refine a_join 30 (fun (t3 : Int32) => [(0, .ref (a0 0)), (2, .int x1l.2)]) (fun (t3 : Int32) => [.int t3]) (fun (t3 : Int32) => [bX12 y a0 v0]) hf (fun t3 hf => ?_) (fun t3 hf J3 => ?_)
    · try dsimp only at hf ⊢
      refine a_istoren (pc := 30) (lv' := [(0, .ref (a0 0)), (1, .int t3), (2, .int x1l.2)]) F [1, 0, 2] dX12_isPoor_30 rfl (by decide) rfl ?_
      refine a_iinc (pc := 31) (j := 2) (v := (x1l.2 + 1)) (lv' := [(0, .ref (a0 0)), (1, .int t3), (2, .int (x1l.2 + 1))]) F [1, 2, 0] dX12_isPoor_31 rfl ki_1 (by decide) rfl ?_
      refine a_goto (pc := 34) (tgt := 4) F dX12_isPoor_34 (by decide) ?_
      exact ih1 (t3, (x1l.2 + 1)) hf
    · refine a_jn 25 (fun (t4 : Unit) => [(0, .ref (a0 0)), (2, .int x1l.2)]) (fun (t4 : Unit) => []) (fun (t4 : Unit) => [bX12 y a0 v0]) hf (fun t4 hf => ?_) (fun K4 hK4 hf => ?_)
      · try dsimp only at hf ⊢
        refine a_iconst (pc := 25) F dX12_isPoor_25 kc_1 ?_
        refine a_goto (pc := 26) (tgt := 30) F dX12_isPoor_26 (by decide) ?_
        obtain rfl := Option.some.inj hf
        exact J3
      · try dsimp only at hf
        refine a_if_ne (pc := 13) (tgt := 25) F dX12_isPoor_13 (by decide) (fun h => ?_) (fun h => ?_)
        · replace hf := it_neg h hf
          refine a_sub [0, 2] rfl ?_
          exact hK4 () hf
        · replace hf := it_pos h hf
          refine a_aloadn (pc := 16) (j := 0) F dX12_isPoor_16 rfl rfl ?_
          refine a_iloadn (pc := 17) (j := 2) F dX12_isPoor_17 rfl rfl ?_
          refine a_iconst (pc := 18) F dX12_isPoor_18 kc_0 ?_
          obtain ⟨t5, ht5, hf⟩ := bd_some hf
          refine a_callV (pc := 19) (bs' := [bX12 y a0 v0]) (kb := 0) (j := 0) F [0] (c_X12_of l D y ek n a0 _ _ _ _ ht5) (cwV 2 F.1.2.2.2.2 (gV q7_111 q7_113 qs_61 q1_11 q7_114) rfl rfl rfl (by decide +kernel) ⟨Nat.le_of_ble_eq_true rfl, Nat.le_of_ble_eq_true rfl⟩) rfl rfl rfl rfl (by decide) rfl rfl rfl rfl rfl rfl (Nat.le_of_ble_eq_true rfl) ⟨Nat.zero_le _, Nat.zero_le _⟩ dX12_isPoor_19 ?_
          refine a_if_ne (pc := 22) (tgt := 29) F dX12_isPoor_22 (by decide) (fun h => ?_) (fun h => ?_)
          · replace hf := it_neg h hf
            refine a_iconst (pc := 29) F dX12_isPoor_29 kc_0 ?_
            refine a_sub [0, 2] rfl ?_
            obtain rfl := Option.some.inj hf
            exact J3
          · replace hf := it_pos h hf
            refine a_sub [0, 2] rfl ?_
            exact hK4 () hf

abbrev wX12_poor : List Cond := Cond.code yX12_poor cX12_poor 3 (some .int) :: WALL
def m_X12_poor (n : Nat) (v0 : St) : Option (Int32 × St) :=
nm (su v0 0 0 0) (fun u1 =>
bd (m_X12_keepsAll n u1) (fun t2 =>
bd (lp (fun (rc5 : Int32 × Int32 × St → Option (Int32 × St)) (x5l : Int32 × Int32 × St) =>
(if 100 < x5l.2.1 then
some (x5l.1, x5l.2.2)
else
(if x5l.1 = (-1) then
bd (m_X12_isPoor n x5l.2.2) (fun t6 =>
bd ((if t6 = 0 then
some (-1)
else
some x5l.2.1)) (fun (t7 : Int32) =>
bd (m_X12_oneWeek n x5l.2.2 1) (fun t8 =>
rc5 (t7, (x5l.2.1 + 1), t8))))
else
some (x5l.1, x5l.2.2)))) n ((-1), 0, t2)) (fun (t3 : Int32 × St) =>
bd (m_X12_bringsBack n t3.2) (fun t4 =>
some (t3.1, t4)))))
set_option maxHeartbeats 4000000 in
set_option maxRecDepth 100000 in
theorem c_X12_poor (l : Launch) (D : va_G) (y : Nat → ClassId) (ek : EK) (n : Nat) (a0 : Nat → Nat) (v0 : St) (res : Int32 × St) (hf : m_X12_poor n v0 = some res) : CI l yX12_poor wX12_poor { frames := 14, cells := 0, slots := 0, locals := 319 } D y ek [.ref (a0 0)] [bX12 y a0 v0] (res.1) [bX12 y a0 res.2] 0 0 := by
  unfold m_X12_poor at hf
  refine ci_of (cc := cX12_poor) (maxL := 3) (by decide) rfl rfl (Nat.le_of_ble_eq_true rfl) ?_
  intro p e s m below meth c Q A F hret
  refine a_lv (lv' := [(0, .ref (a0 0))]) rfl ?_
  refine a_aloadn (pc := 0) (j := 0) F dX12_poor_0 rfl rfl ?_
  refine a_iconst (pc := 1) F dX12_poor_1 kc_0 ?_
  obtain ⟨u1, eu1, hf⟩ := nm_some hf
  refine a_put (pc := 2) (kb := 0) (j := 0) (f := 0) (ty := .int) (bs' := [bX12 y a0 u1]) F iW_X12 rfl rfl rfl (by decide) (tl q6_68) (fun _ h => h) tyX12 tyX12_ok nmX12 rfl rfl rfl rfl (Nat.le_of_ble_eq_true rfl) (by rw [eu1]; rfl) dX12_poor_2 ?_
  refine a_iconst (pc := 5) F dX12_poor_5 kc_m1 ?_
  refine a_istoren (pc := 6) (lv' := [(0, .ref (a0 0)), (1, .int (-1))]) F [1, 0] dX12_poor_6 rfl (by decide) rfl ?_
  refine a_aloadn (pc := 7) (j := 0) F dX12_poor_7 rfl rfl ?_
  obtain ⟨t2, ht2, hf⟩ := bd_some hf
  refine a_callVv (pc := 8) (bs' := [bX12 y a0 t2]) (kb := 0) (j := 0) F [0] (c_X12_keepsAll l D y ek n a0 _ _ ht2) (cwV 0 F.1.2.2.2.2 (gV q8_3 q8_5 qs_82 q1_11 q8_6) rfl rfl rfl (by decide +kernel) ⟨Nat.le_of_ble_eq_true rfl, Nat.le_of_ble_eq_true rfl⟩) rfl rfl rfl rfl (by decide) rfl rfl rfl rfl rfl rfl (Nat.le_of_ble_eq_true rfl) ⟨Nat.zero_le _, Nat.zero_le _⟩ dX12_poor_8 ?_
  refine a_iconst (pc := 11) F dX12_poor_11 kc_0 ?_
  refine a_istoren (pc := 12) (lv' := [(0, .ref (a0 0)), (1, .int (-1)), (2, .int 0)]) F [1, 2, 0] dX12_poor_12 rfl (by decide) rfl ?_
  refine a_join 48 (fun (t3 : Int32 × St) => [(0, .ref (a0 0)), (1, .int t3.1)]) (fun (t3 : Int32 × St) => []) (fun (t3 : Int32 × St) => [bX12 y a0 t3.2]) hf (fun t3 hf => ?_) (fun t3 hf J3 => ?_)
  · try dsimp only at hf ⊢
    refine a_aloadn (pc := 48) (j := 0) F dX12_poor_48 rfl rfl ?_
    obtain ⟨t4, ht4, hf⟩ := bd_some hf
    refine a_callVv (pc := 49) (bs' := [bX12 y a0 t4]) (kb := 0) (j := 0) F [0] (c_X12_bringsBack l D y ek n a0 _ _ ht4) (cwV 0 F.1.2.2.2.2 (gV q8_15 q8_17 qs_85 q1_11 q8_18) rfl rfl rfl (by decide +kernel) ⟨Nat.le_of_ble_eq_true rfl, Nat.le_of_ble_eq_true rfl⟩) rfl rfl rfl rfl (by decide) rfl rfl rfl rfl rfl rfl (Nat.le_of_ble_eq_true rfl) ⟨Nat.zero_le _, Nat.zero_le _⟩ dX12_poor_49 ?_
    refine a_iloadn (pc := 52) (j := 1) F dX12_poor_52 rfl rfl ?_
    obtain rfl := Option.some.inj hf
    exact hret _ _ _ _ (Nat.zero_le _) (Nat.zero_le _) rfl dX12_poor_53
  · refine a_loop 13 (fun (x5l : Int32 × Int32 × St) => [(0, .ref (a0 0)), (1, .int x5l.1), (2, .int x5l.2.1)]) (fun (x5l : Int32 × Int32 × St) => [bX12 y a0 x5l.2.2]) (fun rc5 x5l ih5 hf => ?_) hf rfl rfl
    try dsimp only at hf ⊢
    refine a_iloadn (pc := 13) (j := 2) F dX12_poor_13 rfl rfl ?_
    refine a_bipush (pc := 14) F dX12_poor_14 kb_100 ?_
    refine a_icmp_gt (pc := 16) (tgt := 48) F dX12_poor_16 (by decide) (fun h => ?_) (fun h => ?_)
    · replace hf := it_pos h hf
      refine a_sub [0, 1] rfl ?_
      obtain rfl := Option.some.inj hf
      exact J3
    · replace hf := it_neg h hf
      refine a_iloadn (pc := 19) (j := 1) F dX12_poor_19 rfl rfl ?_
      refine a_iconst (pc := 20) F dX12_poor_20 kc_m1 ?_
      refine a_icmp_ne (pc := 21) (tgt := 48) F dX12_poor_21 (by decide) (fun h => ?_) (fun h => ?_)
      · replace hf := it_neg h hf
        refine a_sub [0, 1] rfl ?_
        obtain rfl := Option.some.inj hf
        exact J3
      · replace hf := it_pos h hf
        refine a_aloadn (pc := 24) (j := 0) F dX12_poor_24 rfl rfl ?_
        obtain ⟨t6, ht6, hf⟩ := bd_some hf
        refine a_callV (pc := 25) (bs' := [bX12 y a0 x5l.2.2]) (kb := 0) (j := 0) F [0] (c_X12_isPoor l D y ek n a0 _ _ ht6) (cwV 0 F.1.2.2.2.2 (gV q8_69 q8_71 qs_93 q1_11 q8_72) rfl rfl rfl (by decide +kernel) ⟨Nat.le_of_ble_eq_true rfl, Nat.le_of_ble_eq_true rfl⟩) rfl rfl rfl rfl (by decide) rfl rfl rfl rfl rfl rfl (Nat.le_of_ble_eq_true rfl) ⟨Nat.zero_le _, Nat.zero_le _⟩ dX12_poor_25 ?_
        refine a_join 36 (fun (t7 : Int32) => [(0, .ref (a0 0)), (2, .int x5l.2.1)]) (fun (t7 : Int32) => [.int t7]) (fun (t7 : Int32) => [bX12 y a0 x5l.2.2]) hf (fun t7 hf => ?_) (fun t7 hf J7 => ?_)
        · try dsimp only at hf ⊢
          refine a_istoren (pc := 36) (lv' := [(0, .ref (a0 0)), (1, .int t7), (2, .int x5l.2.1)]) F [1, 0, 2] dX12_poor_36 rfl (by decide) rfl ?_
          refine a_aloadn (pc := 37) (j := 0) F dX12_poor_37 rfl rfl ?_
          refine a_iconst (pc := 38) F dX12_poor_38 kc_1 ?_
          obtain ⟨t8, ht8, hf⟩ := bd_some hf
          refine a_callVv (pc := 39) (bs' := [bX12 y a0 t8]) (kb := 0) (j := 0) F [0] (c_X12_oneWeek l D y ek n a0 _ _ _ ht8) (cwV 1 F.1.2.2.2.2 (gV q8_36 q8_38 qs_88 q1_11 q8_39) rfl rfl rfl (by decide +kernel) ⟨Nat.le_of_ble_eq_true rfl, Nat.le_of_ble_eq_true rfl⟩) rfl rfl rfl rfl (by decide) rfl rfl rfl rfl rfl rfl (Nat.le_of_ble_eq_true rfl) ⟨Nat.zero_le _, Nat.zero_le _⟩ dX12_poor_39 ?_
          refine a_iinc (pc := 42) (j := 2) (v := (x5l.2.1 + 1)) (lv' := [(0, .ref (a0 0)), (1, .int t7), (2, .int (x5l.2.1 + 1))]) F [1, 2, 0] dX12_poor_42 rfl ki_1 (by decide) rfl ?_
          refine a_goto (pc := 45) (tgt := 13) F dX12_poor_45 (by decide) ?_
          exact ih5 (t7, (x5l.2.1 + 1), t8) hf
        · refine a_if_eq (pc := 28) (tgt := 35) F dX12_poor_28 (by decide) (fun h => ?_) (fun h => ?_)
          · replace hf := it_pos h hf
            refine a_iconst (pc := 35) F dX12_poor_35 kc_m1 ?_
            refine a_sub [0, 2] rfl ?_
            obtain rfl := Option.some.inj hf
            exact J7
          · replace hf := it_neg h hf
            refine a_iloadn (pc := 31) (j := 2) F dX12_poor_31 rfl rfl ?_
            refine a_goto (pc := 32) (tgt := 36) F dX12_poor_32 (by decide) ?_
            refine a_sub [0, 2] rfl ?_
            obtain rfl := Option.some.inj hf
            exact J7

abbrev wX12_breaksIn : List Cond := Cond.code yX12_breaksIn cX12_breaksIn 4 (some .int) :: WALL
def m_X12_breaksIn (n : Nat) (v0 : St) (x1 : Int32) : Option (Int32 × St) :=
bd (m_X12_keepsAll n v0) (fun t1 =>
bd (lp (fun (rc4 : Int32 × Int32 × St → Option (Int32 × St)) (x4l : Int32 × Int32 × St) =>
(if 100 < x4l.2.1 then
some (x4l.1, x4l.2.2)
else
(if x4l.1 = 101 then
bd (m_X12_oneWeek n x4l.2.2 1) (fun t5 =>
bd (m_X12_isBroken n t5 x1) (fun t6 =>
bd ((if t6 = 0 then
some 101
else
some x4l.2.1)) (fun (t7 : Int32) =>
rc4 (t7, (x4l.2.1 + 1), t5))))
else
some (x4l.1, x4l.2.2)))) n (101, 1, t1)) (fun (t2 : Int32 × St) =>
bd (m_X12_bringsBack n t2.2) (fun t3 =>
some (t2.1, t3))))
set_option maxHeartbeats 4000000 in
set_option maxRecDepth 100000 in
theorem c_X12_breaksIn (l : Launch) (D : va_G) (y : Nat → ClassId) (ek : EK) (n : Nat) (a0 : Nat → Nat) (v0 : St) (x1 : Int32) (res : Int32 × St) (hf : m_X12_breaksIn n v0 x1 = some res) : CI l yX12_breaksIn wX12_breaksIn { frames := 14, cells := 0, slots := 0, locals := 319 } D y ek [.ref (a0 0), .int x1] [bX12 y a0 v0] (res.1) [bX12 y a0 res.2] 0 0 := by
  unfold m_X12_breaksIn at hf
  refine ci_of (cc := cX12_breaksIn) (maxL := 4) (by decide) rfl rfl (Nat.le_of_ble_eq_true rfl) ?_
  intro p e s m below meth c Q A F hret
  refine a_lv (lv' := [(0, .ref (a0 0)), (1, .int x1)]) rfl ?_
  refine a_bipush (pc := 0) F dX12_breaksIn_0 kb_101 ?_
  refine a_istoren (pc := 2) (lv' := [(0, .ref (a0 0)), (1, .int x1), (2, .int 101)]) F [1, 2, 0] dX12_breaksIn_2 rfl (by decide) rfl ?_
  refine a_aloadn (pc := 3) (j := 0) F dX12_breaksIn_3 rfl rfl ?_
  obtain ⟨t1, ht1, hf⟩ := bd_some hf
  refine a_callVv (pc := 4) (bs' := [bX12 y a0 t1]) (kb := 0) (j := 0) F [0] (c_X12_keepsAll l D y ek n a0 _ _ ht1) (cwV 0 F.1.2.2.2.2 (gV q8_3 q8_5 qs_82 q1_11 q8_6) rfl rfl rfl (by decide +kernel) ⟨Nat.le_of_ble_eq_true rfl, Nat.le_of_ble_eq_true rfl⟩) rfl rfl rfl rfl (by decide) rfl rfl rfl rfl rfl rfl (Nat.le_of_ble_eq_true rfl) ⟨Nat.zero_le _, Nat.zero_le _⟩ dX12_breaksIn_4 ?_
  refine a_iconst (pc := 7) F dX12_breaksIn_7 kc_1 ?_
  refine a_istoren (pc := 8) (lv' := [(0, .ref (a0 0)), (1, .int x1), (2, .int 101), (3, .int 1)]) F [1, 2, 3, 0] dX12_breaksIn_8 rfl (by decide) rfl ?_
  refine a_join 47 (fun (t2 : Int32 × St) => [(0, .ref (a0 0)), (2, .int t2.1)]) (fun (t2 : Int32 × St) => []) (fun (t2 : Int32 × St) => [bX12 y a0 t2.2]) hf (fun t2 hf => ?_) (fun t2 hf J2 => ?_)
  · try dsimp only at hf ⊢
    refine a_aloadn (pc := 47) (j := 0) F dX12_breaksIn_47 rfl rfl ?_
    obtain ⟨t3, ht3, hf⟩ := bd_some hf
    refine a_callVv (pc := 48) (bs' := [bX12 y a0 t3]) (kb := 0) (j := 0) F [0] (c_X12_bringsBack l D y ek n a0 _ _ ht3) (cwV 0 F.1.2.2.2.2 (gV q8_15 q8_17 qs_85 q1_11 q8_18) rfl rfl rfl (by decide +kernel) ⟨Nat.le_of_ble_eq_true rfl, Nat.le_of_ble_eq_true rfl⟩) rfl rfl rfl rfl (by decide) rfl rfl rfl rfl rfl rfl (Nat.le_of_ble_eq_true rfl) ⟨Nat.zero_le _, Nat.zero_le _⟩ dX12_breaksIn_48 ?_
    refine a_iloadn (pc := 51) (j := 1) F dX12_breaksIn_51 rfl rfl ?_
    obtain rfl := Option.some.inj hf
    exact hret _ _ _ _ (Nat.zero_le _) (Nat.zero_le _) rfl dX12_breaksIn_52
  · refine a_loop 9 (fun (x4l : Int32 × Int32 × St) => [(0, .ref (a0 0)), (1, .int x1), (2, .int x4l.1), (3, .int x4l.2.1)]) (fun (x4l : Int32 × Int32 × St) => [bX12 y a0 x4l.2.2]) (fun rc4 x4l ih4 hf => ?_) hf rfl rfl
    try dsimp only at hf ⊢
    refine a_iloadn (pc := 9) (j := 3) F dX12_breaksIn_9 rfl rfl ?_
    refine a_bipush (pc := 10) F dX12_breaksIn_10 kb_100 ?_
    refine a_icmp_gt (pc := 12) (tgt := 47) F dX12_breaksIn_12 (by decide) (fun h => ?_) (fun h => ?_)
    · replace hf := it_pos h hf
      refine a_sub [0, 2] rfl ?_
      obtain rfl := Option.some.inj hf
      exact J2
    · replace hf := it_neg h hf
      refine a_iloadn (pc := 15) (j := 2) F dX12_breaksIn_15 rfl rfl ?_
      refine a_bipush (pc := 16) F dX12_breaksIn_16 kb_101 ?_
      refine a_icmp_ne (pc := 18) (tgt := 47) F dX12_breaksIn_18 (by decide) (fun h => ?_) (fun h => ?_)
      · replace hf := it_neg h hf
        refine a_sub [0, 2] rfl ?_
        obtain rfl := Option.some.inj hf
        exact J2
      · replace hf := it_pos h hf
        refine a_aloadn (pc := 21) (j := 0) F dX12_breaksIn_21 rfl rfl ?_
        refine a_iconst (pc := 22) F dX12_breaksIn_22 kc_1 ?_
        obtain ⟨t5, ht5, hf⟩ := bd_some hf
        refine a_callVv (pc := 23) (bs' := [bX12 y a0 t5]) (kb := 0) (j := 0) F [0] (c_X12_oneWeek l D y ek n a0 _ _ _ ht5) (cwV 1 F.1.2.2.2.2 (gV q8_36 q8_38 qs_88 q1_11 q8_39) rfl rfl rfl (by decide +kernel) ⟨Nat.le_of_ble_eq_true rfl, Nat.le_of_ble_eq_true rfl⟩) rfl rfl rfl rfl (by decide) rfl rfl rfl rfl rfl rfl (Nat.le_of_ble_eq_true rfl) ⟨Nat.zero_le _, Nat.zero_le _⟩ dX12_breaksIn_23 ?_
        refine a_aloadn (pc := 26) (j := 0) F dX12_breaksIn_26 rfl rfl ?_
        refine a_iloadn (pc := 27) (j := 1) F dX12_breaksIn_27 rfl rfl ?_
        obtain ⟨t6, ht6, hf⟩ := bd_some hf
        refine a_callV (pc := 28) (bs' := [bX12 y a0 t5]) (kb := 0) (j := 0) F [0] (c_X12_isBroken l D y ek n a0 _ _ _ ht6) (cwV 1 F.1.2.2.2.2 (gV q7_125 q7_127 qs_64 q1_11 q7_128) rfl rfl rfl (by decide +kernel) ⟨Nat.le_of_ble_eq_true rfl, Nat.le_of_ble_eq_true rfl⟩) rfl rfl rfl rfl (by decide) rfl rfl rfl rfl rfl rfl (Nat.le_of_ble_eq_true rfl) ⟨Nat.zero_le _, Nat.zero_le _⟩ dX12_breaksIn_28 ?_
        refine a_join 40 (fun (t7 : Int32) => [(0, .ref (a0 0)), (1, .int x1), (3, .int x4l.2.1)]) (fun (t7 : Int32) => [.int t7]) (fun (t7 : Int32) => [bX12 y a0 t5]) hf (fun t7 hf => ?_) (fun t7 hf J7 => ?_)
        · try dsimp only at hf ⊢
          refine a_istoren (pc := 40) (lv' := [(0, .ref (a0 0)), (1, .int x1), (2, .int t7), (3, .int x4l.2.1)]) F [1, 2, 0, 3] dX12_breaksIn_40 rfl (by decide) rfl ?_
          refine a_iinc (pc := 41) (j := 3) (v := (x4l.2.1 + 1)) (lv' := [(0, .ref (a0 0)), (1, .int x1), (2, .int t7), (3, .int (x4l.2.1 + 1))]) F [1, 2, 3, 0] dX12_breaksIn_41 rfl ki_1 (by decide) rfl ?_
          refine a_goto (pc := 44) (tgt := 9) F dX12_breaksIn_44 (by decide) ?_
          exact ih4 (t7, (x4l.2.1 + 1), t5) hf
        · refine a_if_eq (pc := 31) (tgt := 38) F dX12_breaksIn_31 (by decide) (fun h => ?_) (fun h => ?_)
          · replace hf := it_pos h hf
            refine a_bipush (pc := 38) F dX12_breaksIn_38 kb_101 ?_
            refine a_sub [0, 1, 3] rfl ?_
            obtain rfl := Option.some.inj hf
            exact J7
          · replace hf := it_neg h hf
            refine a_iloadn (pc := 34) (j := 3) F dX12_breaksIn_34 rfl rfl ?_
            refine a_goto (pc := 35) (tgt := 40) F dX12_breaksIn_35 (by decide) ?_
            refine a_sub [0, 1, 3] rfl ?_
            obtain rfl := Option.some.inj hf
            exact J7

abbrev wX12_breaks : List Cond := Cond.code yX12_breaks cX12_breaks 3 (some .int) :: WALL
def m_X12_breaks (n : Nat) (v0 : St) (x1 : Int32) : Option (Int32 × St) :=
nm (su v0 0 0 0) (fun u1 =>
bd (m_X12_noPlank n u1 x1) (fun t2 =>
bd (m_X12_throwsIf n u1 t2 1) (fun t3 =>
(if t3.1 = 0 then
bd (m_X12_isBroken n t3.2 x1) (fun t4 =>
bd ((if t4 = 0 then
bd (m_X12_breaksIn n t3.2 x1) (fun t6 =>
some (t6.1, t6.2))
else
some (101, t3.2))) (fun (t5 : Int32 × St) =>
(if t5.1 = 101 then
some ((-1), t5.2)
else
some (t5.1, t5.2))))
else
some (0, t3.2)))))
set_option maxHeartbeats 4000000 in
set_option maxRecDepth 100000 in
theorem c_X12_breaks (l : Launch) (D : va_G) (y : Nat → ClassId) (ek : EK) (n : Nat) (a0 : Nat → Nat) (v0 : St) (x1 : Int32) (res : Int32 × St) (hf : m_X12_breaks n v0 x1 = some res) : CI l yX12_breaks wX12_breaks { frames := 15, cells := 0, slots := 0, locals := 342 } D y ek [.ref (a0 0), .int x1] [bX12 y a0 v0] (res.1) [bX12 y a0 res.2] 0 0 := by
  unfold m_X12_breaks at hf
  refine ci_of (cc := cX12_breaks) (maxL := 3) (by decide) rfl rfl (Nat.le_of_ble_eq_true rfl) ?_
  intro p e s m below meth c Q A F hret
  refine a_lv (lv' := [(0, .ref (a0 0)), (1, .int x1)]) rfl ?_
  refine a_aloadn (pc := 0) (j := 0) F dX12_breaks_0 rfl rfl ?_
  refine a_iconst (pc := 1) F dX12_breaks_1 kc_0 ?_
  obtain ⟨u1, eu1, hf⟩ := nm_some hf
  refine a_put (pc := 2) (kb := 0) (j := 0) (f := 0) (ty := .int) (bs' := [bX12 y a0 u1]) F iW_X12 rfl rfl rfl (by decide) (tl q6_68) (fun _ h => h) tyX12 tyX12_ok nmX12 rfl rfl rfl rfl (Nat.le_of_ble_eq_true rfl) (by rw [eu1]; rfl) dX12_breaks_2 ?_
  refine a_aloadn (pc := 5) (j := 0) F dX12_breaks_5 rfl rfl ?_
  refine a_aloadn (pc := 6) (j := 0) F dX12_breaks_6 rfl rfl ?_
  refine a_iloadn (pc := 7) (j := 1) F dX12_breaks_7 rfl rfl ?_
  obtain ⟨t2, ht2, hf⟩ := bd_some hf
  refine a_callV (pc := 8) (bs' := [bX12 y a0 u1]) (kb := 0) (j := 0) F [0] (c_X12_noPlank l D y ek n a0 _ _ _ ht2) (cwV 1 F.1.2.2.2.2 (gV q7_73 q7_75 qs_53 q1_11 q7_76) rfl rfl rfl (by decide +kernel) ⟨Nat.le_of_ble_eq_true rfl, Nat.le_of_ble_eq_true rfl⟩) rfl rfl rfl rfl (by decide) rfl rfl rfl rfl rfl rfl (Nat.le_of_ble_eq_true rfl) ⟨Nat.zero_le _, Nat.zero_le _⟩ dX12_breaks_8 ?_
  refine a_iconst (pc := 11) F dX12_breaks_11 kc_1 ?_
  obtain ⟨t3, ht3, hf⟩ := bd_some hf
  refine a_callV (pc := 12) (bs' := [bX12 y a0 t3.2]) (kb := 0) (j := 0) F [0] (c_X12_throwsIf l D y ek n a0 _ _ _ _ ht3) (cwV 2 F.1.2.2.2.2 (gV q7_61 q7_63 qs_52 q1_11 q7_64) rfl rfl rfl (by decide +kernel) ⟨Nat.le_of_ble_eq_true rfl, Nat.le_of_ble_eq_true rfl⟩) rfl rfl rfl rfl (by decide) rfl rfl rfl rfl rfl rfl (Nat.le_of_ble_eq_true rfl) ⟨Nat.zero_le _, Nat.zero_le _⟩ dX12_breaks_12 ?_
  refine a_if_eq (pc := 15) (tgt := 20) F dX12_breaks_15 (by decide) (fun h => ?_) (fun h => ?_)
  · replace hf := it_pos h hf
    refine a_aloadn (pc := 20) (j := 0) F dX12_breaks_20 rfl rfl ?_
    refine a_iloadn (pc := 21) (j := 1) F dX12_breaks_21 rfl rfl ?_
    obtain ⟨t4, ht4, hf⟩ := bd_some hf
    refine a_callV (pc := 22) (bs' := [bX12 y a0 t3.2]) (kb := 0) (j := 0) F [0] (c_X12_isBroken l D y ek n a0 _ _ _ ht4) (cwV 1 F.1.2.2.2.2 (gV q7_125 q7_127 qs_64 q1_11 q7_128) rfl rfl rfl (by decide +kernel) ⟨Nat.le_of_ble_eq_true rfl, Nat.le_of_ble_eq_true rfl⟩) rfl rfl rfl rfl (by decide) rfl rfl rfl rfl rfl rfl (Nat.le_of_ble_eq_true rfl) ⟨Nat.zero_le _, Nat.zero_le _⟩ dX12_breaks_22 ?_
    refine a_join 38 (fun (t5 : Int32 × St) => []) (fun (t5 : Int32 × St) => [.int t5.1]) (fun (t5 : Int32 × St) => [bX12 y a0 t5.2]) hf (fun t5 hf => ?_) (fun t5 hf J5 => ?_)
    · try dsimp only at hf ⊢
      refine a_istoren (pc := 38) (lv' := [(2, .int t5.1)]) F [0] dX12_breaks_38 rfl (by decide) rfl ?_
      refine a_iloadn (pc := 39) (j := 0) F dX12_breaks_39 rfl rfl ?_
      refine a_bipush (pc := 40) F dX12_breaks_40 kb_101 ?_
      refine a_icmp_ne (pc := 42) (tgt := 49) F dX12_breaks_42 (by decide) (fun h => ?_) (fun h => ?_)
      · replace hf := it_neg h hf
        refine a_iloadn (pc := 49) (j := 0) F dX12_breaks_49 rfl rfl ?_
        obtain rfl := Option.some.inj hf
        exact hret _ _ _ _ (Nat.zero_le _) (Nat.zero_le _) rfl dX12_breaks_50
      · replace hf := it_pos h hf
        refine a_iconst (pc := 45) F dX12_breaks_45 kc_m1 ?_
        refine a_goto (pc := 46) (tgt := 50) F dX12_breaks_46 (by decide) ?_
        obtain rfl := Option.some.inj hf
        exact hret _ _ _ _ (Nat.zero_le _) (Nat.zero_le _) rfl dX12_breaks_50
    · refine a_if_eq (pc := 25) (tgt := 33) F dX12_breaks_25 (by decide) (fun h => ?_) (fun h => ?_)
      · replace hf := it_pos h hf
        refine a_aloadn (pc := 33) (j := 0) F dX12_breaks_33 rfl rfl ?_
        refine a_iloadn (pc := 34) (j := 1) F dX12_breaks_34 rfl rfl ?_
        obtain ⟨t6, ht6, hf⟩ := bd_some hf
        refine a_callV (pc := 35) (bs' := [bX12 y a0 t6.2]) (kb := 0) (j := 0) F [0] (c_X12_breaksIn l D y ek n a0 _ _ _ ht6) (cwV 1 F.1.2.2.2.2 (gV q8_77 q8_79 qs_94 q1_11 q8_80) rfl rfl rfl (by decide +kernel) ⟨Nat.le_of_ble_eq_true rfl, Nat.le_of_ble_eq_true rfl⟩) rfl rfl rfl rfl (by decide) rfl rfl rfl rfl rfl rfl (Nat.le_of_ble_eq_true rfl) ⟨Nat.zero_le _, Nat.zero_le _⟩ dX12_breaks_35 ?_
        refine a_sub [] rfl ?_
        obtain rfl := Option.some.inj hf
        exact J5
      · replace hf := it_neg h hf
        refine a_bipush (pc := 28) F dX12_breaks_28 kb_101 ?_
        refine a_goto (pc := 30) (tgt := 38) F dX12_breaks_30 (by decide) ?_
        refine a_sub [] rfl ?_
        obtain rfl := Option.some.inj hf
        exact J5
  · replace hf := it_neg h hf
    refine a_iconst (pc := 18) F dX12_breaks_18 kc_0 ?_
    obtain rfl := Option.some.inj hf
    exact hret _ _ _ _ (Nat.zero_le _) (Nat.zero_le _) rfl dX12_breaks_19

abbrev wX12_more : List Cond := Cond.code yX12_more cX12_more 2 (some .int) :: WALL
def m_X12_more (n : Nat) (v0 : St) (x1 : Int32) : Option (Int32 × St) :=
nm (su v0 0 0 0) (fun u1 =>
bd (m_X12_noPlank n u1 x1) (fun t2 =>
bd (m_X12_throwsIf n u1 t2 1) (fun t3 =>
(if t3.1 = 0 then
bd (m_X12_isBroken n t3.2 x1) (fun t4 =>
(if t4 = 0 then
bd (m_X12_ofPlank n t3.2 x1 0) (fun t5 =>
bd (m_X12_ofPlank n t3.2 x1 1) (fun t6 =>
bd (m_X12_loadOf n t3.2 (2 * x1)) (fun t7 =>
bd (m_X12_loadOf n t3.2 ((2 * x1) + 1)) (fun t8 =>
some ((((t5 - t6) - t7) - t8), t3.2)))))
else
some ((-10000), t3.2)))
else
some (0, t3.2)))))
set_option maxHeartbeats 4000000 in
set_option maxRecDepth 100000 in
theorem c_X12_more (l : Launch) (D : va_G) (y : Nat → ClassId) (ek : EK) (n : Nat) (a0 : Nat → Nat) (v0 : St) (x1 : Int32) (res : Int32 × St) (hf : m_X12_more n v0 x1 = some res) : CI l yX12_more wX12_more { frames := 4, cells := 0, slots := 0, locals := 87 } D y ek [.ref (a0 0), .int x1] [bX12 y a0 v0] (res.1) [bX12 y a0 res.2] 0 0 := by
  unfold m_X12_more at hf
  refine ci_of (cc := cX12_more) (maxL := 2) (by decide) rfl rfl (Nat.le_of_ble_eq_true rfl) ?_
  intro p e s m below meth c Q A F hret
  refine a_lv (lv' := [(0, .ref (a0 0)), (1, .int x1)]) rfl ?_
  refine a_aloadn (pc := 0) (j := 0) F dX12_more_0 rfl rfl ?_
  refine a_iconst (pc := 1) F dX12_more_1 kc_0 ?_
  obtain ⟨u1, eu1, hf⟩ := nm_some hf
  refine a_put (pc := 2) (kb := 0) (j := 0) (f := 0) (ty := .int) (bs' := [bX12 y a0 u1]) F iW_X12 rfl rfl rfl (by decide) (tl q6_68) (fun _ h => h) tyX12 tyX12_ok nmX12 rfl rfl rfl rfl (Nat.le_of_ble_eq_true rfl) (by rw [eu1]; rfl) dX12_more_2 ?_
  refine a_aloadn (pc := 5) (j := 0) F dX12_more_5 rfl rfl ?_
  refine a_aloadn (pc := 6) (j := 0) F dX12_more_6 rfl rfl ?_
  refine a_iloadn (pc := 7) (j := 1) F dX12_more_7 rfl rfl ?_
  obtain ⟨t2, ht2, hf⟩ := bd_some hf
  refine a_callV (pc := 8) (bs' := [bX12 y a0 u1]) (kb := 0) (j := 0) F [0] (c_X12_noPlank l D y ek n a0 _ _ _ ht2) (cwV 1 F.1.2.2.2.2 (gV q7_73 q7_75 qs_53 q1_11 q7_76) rfl rfl rfl (by decide +kernel) ⟨Nat.le_of_ble_eq_true rfl, Nat.le_of_ble_eq_true rfl⟩) rfl rfl rfl rfl (by decide) rfl rfl rfl rfl rfl rfl (Nat.le_of_ble_eq_true rfl) ⟨Nat.zero_le _, Nat.zero_le _⟩ dX12_more_8 ?_
  refine a_iconst (pc := 11) F dX12_more_11 kc_1 ?_
  obtain ⟨t3, ht3, hf⟩ := bd_some hf
  refine a_callV (pc := 12) (bs' := [bX12 y a0 t3.2]) (kb := 0) (j := 0) F [0] (c_X12_throwsIf l D y ek n a0 _ _ _ _ ht3) (cwV 2 F.1.2.2.2.2 (gV q7_61 q7_63 qs_52 q1_11 q7_64) rfl rfl rfl (by decide +kernel) ⟨Nat.le_of_ble_eq_true rfl, Nat.le_of_ble_eq_true rfl⟩) rfl rfl rfl rfl (by decide) rfl rfl rfl rfl rfl rfl (Nat.le_of_ble_eq_true rfl) ⟨Nat.zero_le _, Nat.zero_le _⟩ dX12_more_12 ?_
  refine a_if_eq (pc := 15) (tgt := 20) F dX12_more_15 (by decide) (fun h => ?_) (fun h => ?_)
  · replace hf := it_pos h hf
    refine a_aloadn (pc := 20) (j := 0) F dX12_more_20 rfl rfl ?_
    refine a_iloadn (pc := 21) (j := 1) F dX12_more_21 rfl rfl ?_
    obtain ⟨t4, ht4, hf⟩ := bd_some hf
    refine a_callV (pc := 22) (bs' := [bX12 y a0 t3.2]) (kb := 0) (j := 0) F [0] (c_X12_isBroken l D y ek n a0 _ _ _ ht4) (cwV 1 F.1.2.2.2.2 (gV q7_125 q7_127 qs_64 q1_11 q7_128) rfl rfl rfl (by decide +kernel) ⟨Nat.le_of_ble_eq_true rfl, Nat.le_of_ble_eq_true rfl⟩) rfl rfl rfl rfl (by decide) rfl rfl rfl rfl rfl rfl (Nat.le_of_ble_eq_true rfl) ⟨Nat.zero_le _, Nat.zero_le _⟩ dX12_more_22 ?_
    refine a_if_eq (pc := 25) (tgt := 34) F dX12_more_25 (by decide) (fun h => ?_) (fun h => ?_)
    · replace hf := it_pos h hf
      refine a_aloadn (pc := 34) (j := 0) F dX12_more_34 rfl rfl ?_
      refine a_iloadn (pc := 35) (j := 1) F dX12_more_35 rfl rfl ?_
      refine a_iconst (pc := 36) F dX12_more_36 kc_0 ?_
      obtain ⟨t5, ht5, hf⟩ := bd_some hf
      refine a_callV (pc := 37) (bs' := [bX12 y a0 t3.2]) (kb := 0) (j := 0) F [0] (c_X12_ofPlank l D y ek n a0 _ _ _ _ ht5) (cwV 2 F.1.2.2.2.2 (gV q7_88 q7_90 qs_56 q1_11 q7_91) rfl rfl rfl (by decide +kernel) ⟨Nat.le_of_ble_eq_true rfl, Nat.le_of_ble_eq_true rfl⟩) rfl rfl rfl rfl (by decide) rfl rfl rfl rfl rfl rfl (Nat.le_of_ble_eq_true rfl) ⟨Nat.zero_le _, Nat.zero_le _⟩ dX12_more_37 ?_
      refine a_aloadn (pc := 40) (j := 0) F dX12_more_40 rfl rfl ?_
      refine a_iloadn (pc := 41) (j := 1) F dX12_more_41 rfl rfl ?_
      refine a_iconst (pc := 42) F dX12_more_42 kc_1 ?_
      obtain ⟨t6, ht6, hf⟩ := bd_some hf
      refine a_callV (pc := 43) (bs' := [bX12 y a0 t3.2]) (kb := 0) (j := 0) F [0] (c_X12_ofPlank l D y ek n a0 _ _ _ _ ht6) (cwV 2 F.1.2.2.2.2 (gV q7_88 q7_90 qs_56 q1_11 q7_91) rfl rfl rfl (by decide +kernel) ⟨Nat.le_of_ble_eq_true rfl, Nat.le_of_ble_eq_true rfl⟩) rfl rfl rfl rfl (by decide) rfl rfl rfl rfl rfl rfl (Nat.le_of_ble_eq_true rfl) ⟨Nat.zero_le _, Nat.zero_le _⟩ dX12_more_43 ?_
      refine a_isub (pc := 46) F dX12_more_46 ?_
      refine a_aloadn (pc := 47) (j := 0) F dX12_more_47 rfl rfl ?_
      refine a_iconst (pc := 48) F dX12_more_48 kc_2 ?_
      refine a_iloadn (pc := 49) (j := 1) F dX12_more_49 rfl rfl ?_
      refine a_imul (pc := 50) F dX12_more_50 ?_
      obtain ⟨t7, ht7, hf⟩ := bd_some hf
      refine a_callV (pc := 51) (bs' := [bX12 y a0 t3.2]) (kb := 0) (j := 0) F [0] (c_X12_loadOf l D y ek n a0 _ _ _ ht7) (cwV 1 F.1.2.2.2.2 (gV q7_92 q7_94 qs_57 q1_11 q7_95) rfl rfl rfl (by decide +kernel) ⟨Nat.le_of_ble_eq_true rfl, Nat.le_of_ble_eq_true rfl⟩) rfl rfl rfl rfl (by decide) rfl rfl rfl rfl rfl rfl (Nat.le_of_ble_eq_true rfl) ⟨Nat.zero_le _, Nat.zero_le _⟩ dX12_more_51 ?_
      refine a_isub (pc := 54) F dX12_more_54 ?_
      refine a_aloadn (pc := 55) (j := 0) F dX12_more_55 rfl rfl ?_
      refine a_iconst (pc := 56) F dX12_more_56 kc_2 ?_
      refine a_iloadn (pc := 57) (j := 1) F dX12_more_57 rfl rfl ?_
      refine a_imul (pc := 58) F dX12_more_58 ?_
      refine a_iconst (pc := 59) F dX12_more_59 kc_1 ?_
      refine a_iadd (pc := 60) F dX12_more_60 ?_
      obtain ⟨t8, ht8, hf⟩ := bd_some hf
      refine a_callV (pc := 61) (bs' := [bX12 y a0 t3.2]) (kb := 0) (j := 0) F [0] (c_X12_loadOf l D y ek n a0 _ _ _ ht8) (cwV 1 F.1.2.2.2.2 (gV q7_92 q7_94 qs_57 q1_11 q7_95) rfl rfl rfl (by decide +kernel) ⟨Nat.le_of_ble_eq_true rfl, Nat.le_of_ble_eq_true rfl⟩) rfl rfl rfl rfl (by decide) rfl rfl rfl rfl rfl rfl (Nat.le_of_ble_eq_true rfl) ⟨Nat.zero_le _, Nat.zero_le _⟩ dX12_more_61 ?_
      refine a_isub (pc := 64) F dX12_more_64 ?_
      obtain rfl := Option.some.inj hf
      exact hret _ _ _ _ (Nat.zero_le _) (Nat.zero_le _) rfl dX12_more_65
    · replace hf := it_neg h hf
      refine a_sipush (pc := 28) F dX12_more_28 ks_m10000 ?_
      refine a_goto (pc := 31) (tgt := 65) F dX12_more_31 (by decide) ?_
      obtain rfl := Option.some.inj hf
      exact hret _ _ _ _ (Nat.zero_le _) (Nat.zero_le _) rfl dX12_more_65
  · replace hf := it_neg h hf
    refine a_iconst (pc := 18) F dX12_more_18 kc_0 ?_
    obtain rfl := Option.some.inj hf
    exact hret _ _ _ _ (Nat.zero_le _) (Nat.zero_le _) rfl dX12_more_19

abbrev wX12_last : List Cond := Cond.code yX12_last cX12_last 5 (some .int) :: WALL
def m_X12_last (n : Nat) (v0 : St) : Option (Int32 × St) :=
nm (su v0 0 0 0) (fun u1 =>
lp (fun (rc2 : Int32 × Int32 × Int32 × St → Option (Int32 × St)) (x2l : Int32 × Int32 × Int32 × St) =>
bd (m_X12_planks n x2l.2.2.2) (fun t3 =>
(if t3 ≤ x2l.2.2.1 then
some (x2l.1, x2l.2.2.2)
else
bd (m_X12_isBroken n x2l.2.2.2 x2l.2.2.1) (fun t4 =>
bd ((if t4 = 0 then
bd (m_X12_breaksIn n x2l.2.2.2 x2l.2.2.1) (fun t8 =>
some (t8.1, t8.2))
else
some (0, x2l.2.2.2))) (fun (t5 : Int32 × St) =>
bd ((if t5.1 ≤ x2l.2.1 then
some x2l.1
else
some x2l.2.2.1)) (fun (t6 : Int32) =>
nm (x_max x2l.2.1 t5.1) (fun x2_7 =>
rc2 (t6, x2_7, (x2l.2.2.1 + 1), t5.2)))))))) n ((-1), 0, 0, u1))
set_option maxHeartbeats 4000000 in
set_option maxRecDepth 100000 in
theorem c_X12_last (l : Launch) (D : va_G) (y : Nat → ClassId) (ek : EK) (n : Nat) (a0 : Nat → Nat) (v0 : St) (res : Int32 × St) (hf : m_X12_last n v0 = some res) : CI l yX12_last wX12_last { frames := 15, cells := 0, slots := 0, locals := 342 } D y ek [.ref (a0 0)] [bX12 y a0 v0] (res.1) [bX12 y a0 res.2] 0 0 := by
  unfold m_X12_last at hf
  refine ci_of (cc := cX12_last) (maxL := 5) (by decide) rfl rfl (Nat.le_of_ble_eq_true rfl) ?_
  intro p e s m below meth c Q A F hret
  refine a_lv (lv' := [(0, .ref (a0 0))]) rfl ?_
  refine a_aloadn (pc := 0) (j := 0) F dX12_last_0 rfl rfl ?_
  refine a_iconst (pc := 1) F dX12_last_1 kc_0 ?_
  obtain ⟨u1, eu1, hf⟩ := nm_some hf
  refine a_put (pc := 2) (kb := 0) (j := 0) (f := 0) (ty := .int) (bs' := [bX12 y a0 u1]) F iW_X12 rfl rfl rfl (by decide) (tl q6_68) (fun _ h => h) tyX12 tyX12_ok nmX12 rfl rfl rfl rfl (Nat.le_of_ble_eq_true rfl) (by rw [eu1]; rfl) dX12_last_2 ?_
  refine a_iconst (pc := 5) F dX12_last_5 kc_m1 ?_
  refine a_istoren (pc := 6) (lv' := [(0, .ref (a0 0)), (1, .int (-1))]) F [1, 0] dX12_last_6 rfl (by decide) rfl ?_
  refine a_iconst (pc := 7) F dX12_last_7 kc_0 ?_
  refine a_istoren (pc := 8) (lv' := [(0, .ref (a0 0)), (1, .int (-1)), (2, .int 0)]) F [1, 2, 0] dX12_last_8 rfl (by decide) rfl ?_
  refine a_iconst (pc := 9) F dX12_last_9 kc_0 ?_
  refine a_istoren (pc := 10) (lv' := [(0, .ref (a0 0)), (1, .int (-1)), (2, .int 0), (3, .int 0)]) F [1, 2, 3, 0] dX12_last_10 rfl (by decide) rfl ?_
  refine a_loop 11 (fun (x2l : Int32 × Int32 × Int32 × St) => [(0, .ref (a0 0)), (1, .int x2l.1), (2, .int x2l.2.1), (3, .int x2l.2.2.1)]) (fun (x2l : Int32 × Int32 × Int32 × St) => [bX12 y a0 x2l.2.2.2]) (fun rc2 x2l ih2 hf => ?_) hf rfl rfl
  try dsimp only at hf ⊢
  refine a_iloadn (pc := 11) (j := 3) F dX12_last_11 rfl rfl ?_
  refine a_aloadn (pc := 12) (j := 0) F dX12_last_12 rfl rfl ?_
  obtain ⟨t3, ht3, hf⟩ := bd_some hf
  refine a_callV (pc := 13) (bs' := [bX12 y a0 x2l.2.2.2]) (kb := 0) (j := 0) F [0] (c_X12_planks l D y ek n a0 _ _ ht3) (cwV 0 F.1.2.2.2.2 (gV q6_196 q6_198 qs_34 q1_11 q6_199) rfl rfl rfl (by decide +kernel) ⟨Nat.le_of_ble_eq_true rfl, Nat.le_of_ble_eq_true rfl⟩) rfl rfl rfl rfl (by decide) rfl rfl rfl rfl rfl rfl (Nat.le_of_ble_eq_true rfl) ⟨Nat.zero_le _, Nat.zero_le _⟩ dX12_last_13 ?_
  refine a_icmp_ge (pc := 16) (tgt := 63) F dX12_last_16 (by decide) (fun h => ?_) (fun h => ?_)
  · replace hf := it_pos h hf
    refine a_iloadn (pc := 63) (j := 1) F dX12_last_63 rfl rfl ?_
    obtain rfl := Option.some.inj hf
    exact hret _ _ _ _ (Nat.zero_le _) (Nat.zero_le _) rfl dX12_last_64
  · replace hf := it_neg h hf
    refine a_aloadn (pc := 19) (j := 0) F dX12_last_19 rfl rfl ?_
    refine a_iloadn (pc := 20) (j := 3) F dX12_last_20 rfl rfl ?_
    obtain ⟨t4, ht4, hf⟩ := bd_some hf
    refine a_callV (pc := 21) (bs' := [bX12 y a0 x2l.2.2.2]) (kb := 0) (j := 0) F [0] (c_X12_isBroken l D y ek n a0 _ _ _ ht4) (cwV 1 F.1.2.2.2.2 (gV q7_125 q7_127 qs_64 q1_11 q7_128) rfl rfl rfl (by decide +kernel) ⟨Nat.le_of_ble_eq_true rfl, Nat.le_of_ble_eq_true rfl⟩) rfl rfl rfl rfl (by decide) rfl rfl rfl rfl rfl rfl (Nat.le_of_ble_eq_true rfl) ⟨Nat.zero_le _, Nat.zero_le _⟩ dX12_last_21 ?_
    refine a_join 36 (fun (t5 : Int32 × St) => [(0, .ref (a0 0)), (1, .int x2l.1), (2, .int x2l.2.1), (3, .int x2l.2.2.1)]) (fun (t5 : Int32 × St) => [.int t5.1]) (fun (t5 : Int32 × St) => [bX12 y a0 t5.2]) hf (fun t5 hf => ?_) (fun t5 hf J5 => ?_)
    · try dsimp only at hf ⊢
      refine a_istore (pc := 36) (lv' := [(0, .ref (a0 0)), (1, .int x2l.1), (2, .int x2l.2.1), (3, .int x2l.2.2.1), (4, .int t5.1)]) F [1, 2, 3, 4, 0] dX12_last_36 (by decide) rfl ?_
      refine a_iload (pc := 38) (j := 4) F dX12_last_38 rfl ?_
      refine a_iloadn (pc := 40) (j := 2) F dX12_last_40 rfl rfl ?_
      refine a_join 49 (fun (t6 : Int32) => [(0, .ref (a0 0)), (2, .int x2l.2.1), (3, .int x2l.2.2.1), (4, .int t5.1)]) (fun (t6 : Int32) => [.int t6]) (fun (t6 : Int32) => [bX12 y a0 t5.2]) hf (fun t6 hf => ?_) (fun t6 hf J6 => ?_)
      · try dsimp only at hf ⊢
        refine a_istoren (pc := 49) (lv' := [(0, .ref (a0 0)), (1, .int t6), (2, .int x2l.2.1), (3, .int x2l.2.2.1), (4, .int t5.1)]) F [1, 0, 2, 3, 4] dX12_last_49 rfl (by decide) rfl ?_
        refine a_iloadn (pc := 50) (j := 2) F dX12_last_50 rfl rfl ?_
        refine a_iload (pc := 51) (j := 4) F dX12_last_51 rfl ?_
        refine a_mmax (pc := 53) F (tl q7_120) (tl q2_173) (tl q1_22) (tl q_math_max) (Nat.le_of_ble_eq_true rfl) (Nat.le_of_ble_eq_true rfl) (Nat.zero_le _) (Nat.zero_le _) dX12_last_53 ?_
        obtain ⟨x2_7, ex2_7, hf⟩ := nm_some hf
        refine a_nmi ex2_7 ?_
        refine a_istoren (pc := 56) (lv' := [(0, .ref (a0 0)), (1, .int t6), (2, .int x2_7), (3, .int x2l.2.2.1), (4, .int t5.1)]) F [1, 2, 0, 3, 4] dX12_last_56 rfl (by decide) rfl ?_
        refine a_iinc (pc := 57) (j := 3) (v := (x2l.2.2.1 + 1)) (lv' := [(0, .ref (a0 0)), (1, .int t6), (2, .int x2_7), (3, .int (x2l.2.2.1 + 1)), (4, .int t5.1)]) F [1, 2, 3, 0, 4] dX12_last_57 rfl ki_1 (by decide) rfl ?_
        refine a_goto (pc := 60) (tgt := 11) F dX12_last_60 (by decide) ?_
        refine a_sub [0, 1, 2, 3] rfl ?_
        exact ih2 (t6, x2_7, (x2l.2.2.1 + 1), t5.2) hf
      · refine a_icmp_le (pc := 41) (tgt := 48) F dX12_last_41 (by decide) (fun h => ?_) (fun h => ?_)
        · replace hf := it_pos h hf
          refine a_iloadn (pc := 48) (j := 1) F dX12_last_48 rfl rfl ?_
          refine a_sub [0, 2, 3, 4] rfl ?_
          obtain rfl := Option.some.inj hf
          exact J6
        · replace hf := it_neg h hf
          refine a_iloadn (pc := 44) (j := 3) F dX12_last_44 rfl rfl ?_
          refine a_goto (pc := 45) (tgt := 49) F dX12_last_45 (by decide) ?_
          refine a_sub [0, 2, 3, 4] rfl ?_
          obtain rfl := Option.some.inj hf
          exact J6
    · refine a_if_eq (pc := 24) (tgt := 31) F dX12_last_24 (by decide) (fun h => ?_) (fun h => ?_)
      · replace hf := it_pos h hf
        refine a_aloadn (pc := 31) (j := 0) F dX12_last_31 rfl rfl ?_
        refine a_iloadn (pc := 32) (j := 3) F dX12_last_32 rfl rfl ?_
        obtain ⟨t8, ht8, hf⟩ := bd_some hf
        refine a_callV (pc := 33) (bs' := [bX12 y a0 t8.2]) (kb := 0) (j := 0) F [0] (c_X12_breaksIn l D y ek n a0 _ _ _ ht8) (cwV 1 F.1.2.2.2.2 (gV q8_77 q8_79 qs_94 q1_11 q8_80) rfl rfl rfl (by decide +kernel) ⟨Nat.le_of_ble_eq_true rfl, Nat.le_of_ble_eq_true rfl⟩) rfl rfl rfl rfl (by decide) rfl rfl rfl rfl rfl rfl (Nat.le_of_ble_eq_true rfl) ⟨Nat.zero_le _, Nat.zero_le _⟩ dX12_last_33 ?_
        obtain rfl := Option.some.inj hf
        exact J5
      · replace hf := it_neg h hf
        refine a_iconst (pc := 27) F dX12_last_27 kc_0 ?_
        refine a_goto (pc := 28) (tgt := 36) F dX12_last_28 (by decide) ?_
        obtain rfl := Option.some.inj hf
        exact J5

abbrev wX12_view : List Cond := Cond.code yX12_view cX12_view 3 (some .int) :: WALL
def m_X12_view (n : Nat) (v0 : St) : Option (Int32 × St) :=
nm (su v0 0 0 0) (fun u1 =>
lp (fun (rc2 : Int32 × Int32 → Option (Int32 × St)) (x2l : Int32 × Int32) =>
bd (m_X12_houses n u1) (fun t3 =>
(if t3 ≤ x2l.2 then
some (x2l.1, u1)
else
bd (m_X12_heightOf n u1 x2l.2) (fun t4 =>
bd ((if t4 ≤ 5 then
some 0
else
some (x_shl 1 x2l.2))) (fun (t5 : Int32) =>
nm (x2l.1 ||| t5) (fun x1_6 =>
rc2 (x1_6, (x2l.2 + 1)))))))) n (0, 0))
set_option maxHeartbeats 4000000 in
set_option maxRecDepth 100000 in
theorem c_X12_view (l : Launch) (D : va_G) (y : Nat → ClassId) (ek : EK) (n : Nat) (a0 : Nat → Nat) (v0 : St) (res : Int32 × St) (hf : m_X12_view n v0 = some res) : CI l yX12_view wX12_view { frames := 6, cells := 0, slots := 0, locals := 129 } D y ek [.ref (a0 0)] [bX12 y a0 v0] (res.1) [bX12 y a0 res.2] 0 0 := by
  unfold m_X12_view at hf
  refine ci_of (cc := cX12_view) (maxL := 3) (by decide) rfl rfl (Nat.le_of_ble_eq_true rfl) ?_
  intro p e s m below meth c Q A F hret
  refine a_lv (lv' := [(0, .ref (a0 0))]) rfl ?_
  refine a_aloadn (pc := 0) (j := 0) F dX12_view_0 rfl rfl ?_
  refine a_iconst (pc := 1) F dX12_view_1 kc_0 ?_
  obtain ⟨u1, eu1, hf⟩ := nm_some hf
  refine a_put (pc := 2) (kb := 0) (j := 0) (f := 0) (ty := .int) (bs' := [bX12 y a0 u1]) F iW_X12 rfl rfl rfl (by decide) (tl q6_68) (fun _ h => h) tyX12 tyX12_ok nmX12 rfl rfl rfl rfl (Nat.le_of_ble_eq_true rfl) (by rw [eu1]; rfl) dX12_view_2 ?_
  refine a_iconst (pc := 5) F dX12_view_5 kc_0 ?_
  refine a_istoren (pc := 6) (lv' := [(0, .ref (a0 0)), (1, .int 0)]) F [1, 0] dX12_view_6 rfl (by decide) rfl ?_
  refine a_iconst (pc := 7) F dX12_view_7 kc_0 ?_
  refine a_istoren (pc := 8) (lv' := [(0, .ref (a0 0)), (1, .int 0), (2, .int 0)]) F [1, 2, 0] dX12_view_8 rfl (by decide) rfl ?_
  refine a_loop 9 (fun (x2l : Int32 × Int32) => [(0, .ref (a0 0)), (1, .int x2l.1), (2, .int x2l.2)]) (fun (x2l : Int32 × Int32) => [bX12 y a0 u1]) (fun rc2 x2l ih2 hf => ?_) hf rfl rfl
  try dsimp only at hf ⊢
  refine a_iloadn (pc := 9) (j := 2) F dX12_view_9 rfl rfl ?_
  refine a_aloadn (pc := 10) (j := 0) F dX12_view_10 rfl rfl ?_
  obtain ⟨t3, ht3, hf⟩ := bd_some hf
  refine a_callV (pc := 11) (bs' := [bX12 y a0 u1]) (kb := 0) (j := 0) F [0] (c_X12_houses l D y ek n a0 _ _ ht3) (cwV 0 F.1.2.2.2.2 (gV q6_220 q6_222 qs_38 q1_11 q6_223) rfl rfl rfl (by decide +kernel) ⟨Nat.le_of_ble_eq_true rfl, Nat.le_of_ble_eq_true rfl⟩) rfl rfl rfl rfl (by decide) rfl rfl rfl rfl rfl rfl (Nat.le_of_ble_eq_true rfl) ⟨Nat.zero_le _, Nat.zero_le _⟩ dX12_view_11 ?_
  refine a_icmp_ge (pc := 14) (tgt := 42) F dX12_view_14 (by decide) (fun h => ?_) (fun h => ?_)
  · replace hf := it_pos h hf
    refine a_iloadn (pc := 42) (j := 1) F dX12_view_42 rfl rfl ?_
    obtain rfl := Option.some.inj hf
    exact hret _ _ _ _ (Nat.zero_le _) (Nat.zero_le _) rfl dX12_view_43
  · replace hf := it_neg h hf
    refine a_iloadn (pc := 17) (j := 1) F dX12_view_17 rfl rfl ?_
    refine a_aloadn (pc := 18) (j := 0) F dX12_view_18 rfl rfl ?_
    refine a_iloadn (pc := 19) (j := 2) F dX12_view_19 rfl rfl ?_
    obtain ⟨t4, ht4, hf⟩ := bd_some hf
    refine a_callV (pc := 20) (bs' := [bX12 y a0 u1]) (kb := 0) (j := 0) F [0] (c_X12_heightOf l D y ek n a0 _ _ _ ht4) (cwV 1 F.1.2.2.2.2 (gV q7_145 q7_147 qs_69 q1_11 q7_148) rfl rfl rfl (by decide +kernel) ⟨Nat.le_of_ble_eq_true rfl, Nat.le_of_ble_eq_true rfl⟩) rfl rfl rfl rfl (by decide) rfl rfl rfl rfl rfl rfl (Nat.le_of_ble_eq_true rfl) ⟨Nat.zero_le _, Nat.zero_le _⟩ dX12_view_20 ?_
    refine a_iconst (pc := 23) F dX12_view_23 kc_5 ?_
    refine a_join 34 (fun (t5 : Int32) => [(0, .ref (a0 0)), (2, .int x2l.2)]) (fun (t5 : Int32) => [.int t5, .int x2l.1]) (fun (t5 : Int32) => [bX12 y a0 u1]) hf (fun t5 hf => ?_) (fun t5 hf J5 => ?_)
    · try dsimp only at hf ⊢
      refine a_ior (pc := 34) F dX12_view_34 ?_
      obtain ⟨x1_6, ex1_6, hf⟩ := nm_some hf
      refine a_nmi ex1_6 ?_
      refine a_istoren (pc := 35) (lv' := [(0, .ref (a0 0)), (1, .int x1_6), (2, .int x2l.2)]) F [1, 0, 2] dX12_view_35 rfl (by decide) rfl ?_
      refine a_iinc (pc := 36) (j := 2) (v := (x2l.2 + 1)) (lv' := [(0, .ref (a0 0)), (1, .int x1_6), (2, .int (x2l.2 + 1))]) F [1, 2, 0] dX12_view_36 rfl ki_1 (by decide) rfl ?_
      refine a_goto (pc := 39) (tgt := 9) F dX12_view_39 (by decide) ?_
      exact ih2 (x1_6, (x2l.2 + 1)) hf
    · refine a_icmp_le (pc := 24) (tgt := 33) F dX12_view_24 (by decide) (fun h => ?_) (fun h => ?_)
      · replace hf := it_pos h hf
        refine a_iconst (pc := 33) F dX12_view_33 kc_0 ?_
        refine a_sub [0, 2] rfl ?_
        obtain rfl := Option.some.inj hf
        exact J5
      · replace hf := it_neg h hf
        refine a_iconst (pc := 27) F dX12_view_27 kc_1 ?_
        refine a_iloadn (pc := 28) (j := 2) F dX12_view_28 rfl rfl ?_
        refine a_ishl (pc := 29) F dX12_view_29 ?_
        refine a_goto (pc := 30) (tgt := 34) F dX12_view_30 (by decide) ?_
        refine a_sub [0, 2] rfl ?_
        obtain rfl := Option.some.inj hf
        exact J5

abbrev wX12_well : List Cond := Cond.code yX12_well cX12_well 3 (some .int) :: WALL
def m_X12_well (n : Nat) (v0 : St) : Option (Int32 × St) :=
nm (su v0 0 0 0) (fun u1 =>
lp (fun (rc2 : Int32 × Int32 → Option (Int32 × St)) (x2l : Int32 × Int32) =>
bd (m_X12_houses n u1) (fun t3 =>
(if t3 ≤ x2l.2 then
some (x2l.1, u1)
else
bd (m_X12_heightOf n u1 x2l.2) (fun t4 =>
bd ((if 5 ≤ t4 then
some 0
else
some (x_shl 1 x2l.2))) (fun (t5 : Int32) =>
nm (x2l.1 ||| t5) (fun x1_6 =>
rc2 (x1_6, (x2l.2 + 1)))))))) n (0, 0))
set_option maxHeartbeats 4000000 in
set_option maxRecDepth 100000 in
theorem c_X12_well (l : Launch) (D : va_G) (y : Nat → ClassId) (ek : EK) (n : Nat) (a0 : Nat → Nat) (v0 : St) (res : Int32 × St) (hf : m_X12_well n v0 = some res) : CI l yX12_well wX12_well { frames := 6, cells := 0, slots := 0, locals := 129 } D y ek [.ref (a0 0)] [bX12 y a0 v0] (res.1) [bX12 y a0 res.2] 0 0 := by
  unfold m_X12_well at hf
  refine ci_of (cc := cX12_well) (maxL := 3) (by decide) rfl rfl (Nat.le_of_ble_eq_true rfl) ?_
  intro p e s m below meth c Q A F hret
  refine a_lv (lv' := [(0, .ref (a0 0))]) rfl ?_
  refine a_aloadn (pc := 0) (j := 0) F dX12_well_0 rfl rfl ?_
  refine a_iconst (pc := 1) F dX12_well_1 kc_0 ?_
  obtain ⟨u1, eu1, hf⟩ := nm_some hf
  refine a_put (pc := 2) (kb := 0) (j := 0) (f := 0) (ty := .int) (bs' := [bX12 y a0 u1]) F iW_X12 rfl rfl rfl (by decide) (tl q6_68) (fun _ h => h) tyX12 tyX12_ok nmX12 rfl rfl rfl rfl (Nat.le_of_ble_eq_true rfl) (by rw [eu1]; rfl) dX12_well_2 ?_
  refine a_iconst (pc := 5) F dX12_well_5 kc_0 ?_
  refine a_istoren (pc := 6) (lv' := [(0, .ref (a0 0)), (1, .int 0)]) F [1, 0] dX12_well_6 rfl (by decide) rfl ?_
  refine a_iconst (pc := 7) F dX12_well_7 kc_0 ?_
  refine a_istoren (pc := 8) (lv' := [(0, .ref (a0 0)), (1, .int 0), (2, .int 0)]) F [1, 2, 0] dX12_well_8 rfl (by decide) rfl ?_
  refine a_loop 9 (fun (x2l : Int32 × Int32) => [(0, .ref (a0 0)), (1, .int x2l.1), (2, .int x2l.2)]) (fun (x2l : Int32 × Int32) => [bX12 y a0 u1]) (fun rc2 x2l ih2 hf => ?_) hf rfl rfl
  try dsimp only at hf ⊢
  refine a_iloadn (pc := 9) (j := 2) F dX12_well_9 rfl rfl ?_
  refine a_aloadn (pc := 10) (j := 0) F dX12_well_10 rfl rfl ?_
  obtain ⟨t3, ht3, hf⟩ := bd_some hf
  refine a_callV (pc := 11) (bs' := [bX12 y a0 u1]) (kb := 0) (j := 0) F [0] (c_X12_houses l D y ek n a0 _ _ ht3) (cwV 0 F.1.2.2.2.2 (gV q6_220 q6_222 qs_38 q1_11 q6_223) rfl rfl rfl (by decide +kernel) ⟨Nat.le_of_ble_eq_true rfl, Nat.le_of_ble_eq_true rfl⟩) rfl rfl rfl rfl (by decide) rfl rfl rfl rfl rfl rfl (Nat.le_of_ble_eq_true rfl) ⟨Nat.zero_le _, Nat.zero_le _⟩ dX12_well_11 ?_
  refine a_icmp_ge (pc := 14) (tgt := 42) F dX12_well_14 (by decide) (fun h => ?_) (fun h => ?_)
  · replace hf := it_pos h hf
    refine a_iloadn (pc := 42) (j := 1) F dX12_well_42 rfl rfl ?_
    obtain rfl := Option.some.inj hf
    exact hret _ _ _ _ (Nat.zero_le _) (Nat.zero_le _) rfl dX12_well_43
  · replace hf := it_neg h hf
    refine a_iloadn (pc := 17) (j := 1) F dX12_well_17 rfl rfl ?_
    refine a_aloadn (pc := 18) (j := 0) F dX12_well_18 rfl rfl ?_
    refine a_iloadn (pc := 19) (j := 2) F dX12_well_19 rfl rfl ?_
    obtain ⟨t4, ht4, hf⟩ := bd_some hf
    refine a_callV (pc := 20) (bs' := [bX12 y a0 u1]) (kb := 0) (j := 0) F [0] (c_X12_heightOf l D y ek n a0 _ _ _ ht4) (cwV 1 F.1.2.2.2.2 (gV q7_145 q7_147 qs_69 q1_11 q7_148) rfl rfl rfl (by decide +kernel) ⟨Nat.le_of_ble_eq_true rfl, Nat.le_of_ble_eq_true rfl⟩) rfl rfl rfl rfl (by decide) rfl rfl rfl rfl rfl rfl (Nat.le_of_ble_eq_true rfl) ⟨Nat.zero_le _, Nat.zero_le _⟩ dX12_well_20 ?_
    refine a_iconst (pc := 23) F dX12_well_23 kc_5 ?_
    refine a_join 34 (fun (t5 : Int32) => [(0, .ref (a0 0)), (2, .int x2l.2)]) (fun (t5 : Int32) => [.int t5, .int x2l.1]) (fun (t5 : Int32) => [bX12 y a0 u1]) hf (fun t5 hf => ?_) (fun t5 hf J5 => ?_)
    · try dsimp only at hf ⊢
      refine a_ior (pc := 34) F dX12_well_34 ?_
      obtain ⟨x1_6, ex1_6, hf⟩ := nm_some hf
      refine a_nmi ex1_6 ?_
      refine a_istoren (pc := 35) (lv' := [(0, .ref (a0 0)), (1, .int x1_6), (2, .int x2l.2)]) F [1, 0, 2] dX12_well_35 rfl (by decide) rfl ?_
      refine a_iinc (pc := 36) (j := 2) (v := (x2l.2 + 1)) (lv' := [(0, .ref (a0 0)), (1, .int x1_6), (2, .int (x2l.2 + 1))]) F [1, 2, 0] dX12_well_36 rfl ki_1 (by decide) rfl ?_
      refine a_goto (pc := 39) (tgt := 9) F dX12_well_39 (by decide) ?_
      exact ih2 (x1_6, (x2l.2 + 1)) hf
    · refine a_icmp_ge (pc := 24) (tgt := 33) F dX12_well_24 (by decide) (fun h => ?_) (fun h => ?_)
      · replace hf := it_pos h hf
        refine a_iconst (pc := 33) F dX12_well_33 kc_0 ?_
        refine a_sub [0, 2] rfl ?_
        obtain rfl := Option.some.inj hf
        exact J5
      · replace hf := it_neg h hf
        refine a_iconst (pc := 27) F dX12_well_27 kc_1 ?_
        refine a_iloadn (pc := 28) (j := 2) F dX12_well_28 rfl rfl ?_
        refine a_ishl (pc := 29) F dX12_well_29 ?_
        refine a_goto (pc := 30) (tgt := 34) F dX12_well_30 (by decide) ?_
        refine a_sub [0, 2] rfl ?_
        obtain rfl := Option.some.inj hf
        exact J5

abbrev wX12_twins : List Cond := Cond.code yX12_twins cX12_twins 4 (some .int) :: WALL
def m_X12_twins (n : Nat) (v0 : St) : Option (Int32 × St) :=
nm (su v0 0 0 0) (fun u1 =>
lp (fun (rc2 : Int32 × Int32 → Option (Int32 × St)) (x2l : Int32 × Int32) =>
bd (m_X12_planks n u1) (fun t3 =>
(if t3 ≤ x2l.2 then
some (x2l.1, u1)
else
bd (lp (fun (rc5 : Int32 × Int32 → Option (Int32)) (x5l : Int32 × Int32) =>
(if x2l.2 ≤ x5l.2 then
some x5l.1
else
bd (m_X12_isBroken n u1 x2l.2) (fun t6 =>
bd (jn (fun (t9 : Unit) =>
some 0) (fun (K9 : Unit → Option (Int32)) =>
(if t6 = 0 then
bd (m_X12_isBroken n u1 x5l.2) (fun t10 =>
(if t10 = 0 then
bd (m_X12_tiltOf n u1 x2l.2) (fun t11 =>
bd (m_X12_tiltOf n u1 x5l.2) (fun t12 =>
(if t11 = t12 then
some 1
else
K9 ())))
else
K9 ()))
else
K9 ()))) (fun (t7 : Int32) =>
nm (x5l.1 + t7) (fun x1_8 =>
rc5 (x1_8, (x5l.2 + 1))))))) n (x2l.1, 0)) (fun (t4 : Int32) =>
rc2 (t4, (x2l.2 + 1)))))) n (0, 0))
set_option maxHeartbeats 4000000 in
set_option maxRecDepth 100000 in
theorem c_X12_twins (l : Launch) (D : va_G) (y : Nat → ClassId) (ek : EK) (n : Nat) (a0 : Nat → Nat) (v0 : St) (res : Int32 × St) (hf : m_X12_twins n v0 = some res) : CI l yX12_twins wX12_twins { frames := 5, cells := 0, slots := 0, locals := 108 } D y ek [.ref (a0 0)] [bX12 y a0 v0] (res.1) [bX12 y a0 res.2] 0 0 := by
  unfold m_X12_twins at hf
  refine ci_of (cc := cX12_twins) (maxL := 4) (by decide) rfl rfl (Nat.le_of_ble_eq_true rfl) ?_
  intro p e s m below meth c Q A F hret
  refine a_lv (lv' := [(0, .ref (a0 0))]) rfl ?_
  refine a_aloadn (pc := 0) (j := 0) F dX12_twins_0 rfl rfl ?_
  refine a_iconst (pc := 1) F dX12_twins_1 kc_0 ?_
  obtain ⟨u1, eu1, hf⟩ := nm_some hf
  refine a_put (pc := 2) (kb := 0) (j := 0) (f := 0) (ty := .int) (bs' := [bX12 y a0 u1]) F iW_X12 rfl rfl rfl (by decide) (tl q6_68) (fun _ h => h) tyX12 tyX12_ok nmX12 rfl rfl rfl rfl (Nat.le_of_ble_eq_true rfl) (by rw [eu1]; rfl) dX12_twins_2 ?_
  refine a_iconst (pc := 5) F dX12_twins_5 kc_0 ?_
  refine a_istoren (pc := 6) (lv' := [(0, .ref (a0 0)), (1, .int 0)]) F [1, 0] dX12_twins_6 rfl (by decide) rfl ?_
  refine a_iconst (pc := 7) F dX12_twins_7 kc_0 ?_
  refine a_istoren (pc := 8) (lv' := [(0, .ref (a0 0)), (1, .int 0), (2, .int 0)]) F [1, 2, 0] dX12_twins_8 rfl (by decide) rfl ?_
  refine a_loop 9 (fun (x2l : Int32 × Int32) => [(0, .ref (a0 0)), (1, .int x2l.1), (2, .int x2l.2)]) (fun (x2l : Int32 × Int32) => [bX12 y a0 u1]) (fun rc2 x2l ih2 hf => ?_) hf rfl rfl
  try dsimp only at hf ⊢
  refine a_iloadn (pc := 9) (j := 2) F dX12_twins_9 rfl rfl ?_
  refine a_aloadn (pc := 10) (j := 0) F dX12_twins_10 rfl rfl ?_
  obtain ⟨t3, ht3, hf⟩ := bd_some hf
  refine a_callV (pc := 11) (bs' := [bX12 y a0 u1]) (kb := 0) (j := 0) F [0] (c_X12_planks l D y ek n a0 _ _ ht3) (cwV 0 F.1.2.2.2.2 (gV q6_196 q6_198 qs_34 q1_11 q6_199) rfl rfl rfl (by decide +kernel) ⟨Nat.le_of_ble_eq_true rfl, Nat.le_of_ble_eq_true rfl⟩) rfl rfl rfl rfl (by decide) rfl rfl rfl rfl rfl rfl (Nat.le_of_ble_eq_true rfl) ⟨Nat.zero_le _, Nat.zero_le _⟩ dX12_twins_11 ?_
  refine a_icmp_ge (pc := 14) (tgt := 73) F dX12_twins_14 (by decide) (fun h => ?_) (fun h => ?_)
  · replace hf := it_pos h hf
    refine a_iloadn (pc := 73) (j := 1) F dX12_twins_73 rfl rfl ?_
    obtain rfl := Option.some.inj hf
    exact hret _ _ _ _ (Nat.zero_le _) (Nat.zero_le _) rfl dX12_twins_74
  · replace hf := it_neg h hf
    refine a_iconst (pc := 17) F dX12_twins_17 kc_0 ?_
    refine a_istoren (pc := 18) (lv' := [(0, .ref (a0 0)), (1, .int x2l.1), (2, .int x2l.2), (3, .int 0)]) F [1, 2, 3, 0] dX12_twins_18 rfl (by decide) rfl ?_
    refine a_join 67 (fun (t4 : Int32) => [(0, .ref (a0 0)), (1, .int t4), (2, .int x2l.2)]) (fun (t4 : Int32) => []) (fun (t4 : Int32) => [bX12 y a0 u1]) hf (fun t4 hf => ?_) (fun t4 hf J4 => ?_)
    · try dsimp only at hf ⊢
      refine a_iinc (pc := 67) (j := 2) (v := (x2l.2 + 1)) (lv' := [(0, .ref (a0 0)), (1, .int t4), (2, .int (x2l.2 + 1))]) F [1, 2, 0] dX12_twins_67 rfl ki_1 (by decide) rfl ?_
      refine a_goto (pc := 70) (tgt := 9) F dX12_twins_70 (by decide) ?_
      exact ih2 (t4, (x2l.2 + 1)) hf
    · refine a_loop 19 (fun (x5l : Int32 × Int32) => [(0, .ref (a0 0)), (1, .int x5l.1), (2, .int x2l.2), (3, .int x5l.2)]) (fun (x5l : Int32 × Int32) => [bX12 y a0 u1]) (fun rc5 x5l ih5 hf => ?_) hf rfl rfl
      try dsimp only at hf ⊢
      refine a_iloadn (pc := 19) (j := 3) F dX12_twins_19 rfl rfl ?_
      refine a_iloadn (pc := 20) (j := 2) F dX12_twins_20 rfl rfl ?_
      refine a_icmp_ge (pc := 21) (tgt := 67) F dX12_twins_21 (by decide) (fun h => ?_) (fun h => ?_)
      · replace hf := it_pos h hf
        refine a_sub [0, 1, 2] rfl ?_
        obtain rfl := Option.some.inj hf
        exact J4
      · replace hf := it_neg h hf
        refine a_iloadn (pc := 24) (j := 1) F dX12_twins_24 rfl rfl ?_
        refine a_aloadn (pc := 25) (j := 0) F dX12_twins_25 rfl rfl ?_
        refine a_iloadn (pc := 26) (j := 2) F dX12_twins_26 rfl rfl ?_
        obtain ⟨t6, ht6, hf⟩ := bd_some hf
        refine a_callV (pc := 27) (bs' := [bX12 y a0 u1]) (kb := 0) (j := 0) F [0] (c_X12_isBroken l D y ek n a0 _ _ _ ht6) (cwV 1 F.1.2.2.2.2 (gV q7_125 q7_127 qs_64 q1_11 q7_128) rfl rfl rfl (by decide +kernel) ⟨Nat.le_of_ble_eq_true rfl, Nat.le_of_ble_eq_true rfl⟩) rfl rfl rfl rfl (by decide) rfl rfl rfl rfl rfl rfl (Nat.le_of_ble_eq_true rfl) ⟨Nat.zero_le _, Nat.zero_le _⟩ dX12_twins_27 ?_
        refine a_join 59 (fun (t7 : Int32) => [(0, .ref (a0 0)), (2, .int x2l.2), (3, .int x5l.2)]) (fun (t7 : Int32) => [.int t7, .int x5l.1]) (fun (t7 : Int32) => [bX12 y a0 u1]) hf (fun t7 hf => ?_) (fun t7 hf J7 => ?_)
        · try dsimp only at hf ⊢
          refine a_iadd (pc := 59) F dX12_twins_59 ?_
          obtain ⟨x1_8, ex1_8, hf⟩ := nm_some hf
          refine a_nmi ex1_8 ?_
          refine a_istoren (pc := 60) (lv' := [(0, .ref (a0 0)), (1, .int x1_8), (2, .int x2l.2), (3, .int x5l.2)]) F [1, 0, 2, 3] dX12_twins_60 rfl (by decide) rfl ?_
          refine a_iinc (pc := 61) (j := 3) (v := (x5l.2 + 1)) (lv' := [(0, .ref (a0 0)), (1, .int x1_8), (2, .int x2l.2), (3, .int (x5l.2 + 1))]) F [1, 2, 3, 0] dX12_twins_61 rfl ki_1 (by decide) rfl ?_
          refine a_goto (pc := 64) (tgt := 19) F dX12_twins_64 (by decide) ?_
          exact ih5 (x1_8, (x5l.2 + 1)) hf
        · refine a_jn 58 (fun (t9 : Unit) => [(0, .ref (a0 0)), (2, .int x2l.2), (3, .int x5l.2)]) (fun (t9 : Unit) => [.int x5l.1]) (fun (t9 : Unit) => [bX12 y a0 u1]) hf (fun t9 hf => ?_) (fun K9 hK9 hf => ?_)
          · try dsimp only at hf ⊢
            refine a_iconst (pc := 58) F dX12_twins_58 kc_0 ?_
            obtain rfl := Option.some.inj hf
            exact J7
          · try dsimp only at hf
            refine a_if_ne (pc := 30) (tgt := 58) F dX12_twins_30 (by decide) (fun h => ?_) (fun h => ?_)
            · replace hf := it_neg h hf
              refine a_sub [0, 2, 3] rfl ?_
              exact hK9 () hf
            · replace hf := it_pos h hf
              refine a_aloadn (pc := 33) (j := 0) F dX12_twins_33 rfl rfl ?_
              refine a_iloadn (pc := 34) (j := 3) F dX12_twins_34 rfl rfl ?_
              obtain ⟨t10, ht10, hf⟩ := bd_some hf
              refine a_callV (pc := 35) (bs' := [bX12 y a0 u1]) (kb := 0) (j := 0) F [0] (c_X12_isBroken l D y ek n a0 _ _ _ ht10) (cwV 1 F.1.2.2.2.2 (gV q7_125 q7_127 qs_64 q1_11 q7_128) rfl rfl rfl (by decide +kernel) ⟨Nat.le_of_ble_eq_true rfl, Nat.le_of_ble_eq_true rfl⟩) rfl rfl rfl rfl (by decide) rfl rfl rfl rfl rfl rfl (Nat.le_of_ble_eq_true rfl) ⟨Nat.zero_le _, Nat.zero_le _⟩ dX12_twins_35 ?_
              refine a_if_ne (pc := 38) (tgt := 58) F dX12_twins_38 (by decide) (fun h => ?_) (fun h => ?_)
              · replace hf := it_neg h hf
                refine a_sub [0, 2, 3] rfl ?_
                exact hK9 () hf
              · replace hf := it_pos h hf
                refine a_aloadn (pc := 41) (j := 0) F dX12_twins_41 rfl rfl ?_
                refine a_iloadn (pc := 42) (j := 2) F dX12_twins_42 rfl rfl ?_
                obtain ⟨t11, ht11, hf⟩ := bd_some hf
                refine a_callV (pc := 43) (bs' := [bX12 y a0 u1]) (kb := 0) (j := 0) F [0] (c_X12_tiltOf l D y ek n a0 _ _ _ ht11) (cwV 1 F.1.2.2.2.2 (gV q7_80 q7_82 qs_54 q1_11 q7_83) rfl rfl rfl (by decide +kernel) ⟨Nat.le_of_ble_eq_true rfl, Nat.le_of_ble_eq_true rfl⟩) rfl rfl rfl rfl (by decide) rfl rfl rfl rfl rfl rfl (Nat.le_of_ble_eq_true rfl) ⟨Nat.zero_le _, Nat.zero_le _⟩ dX12_twins_43 ?_
                refine a_aloadn (pc := 46) (j := 0) F dX12_twins_46 rfl rfl ?_
                refine a_iloadn (pc := 47) (j := 3) F dX12_twins_47 rfl rfl ?_
                obtain ⟨t12, ht12, hf⟩ := bd_some hf
                refine a_callV (pc := 48) (bs' := [bX12 y a0 u1]) (kb := 0) (j := 0) F [0] (c_X12_tiltOf l D y ek n a0 _ _ _ ht12) (cwV 1 F.1.2.2.2.2 (gV q7_80 q7_82 qs_54 q1_11 q7_83) rfl rfl rfl (by decide +kernel) ⟨Nat.le_of_ble_eq_true rfl, Nat.le_of_ble_eq_true rfl⟩) rfl rfl rfl rfl (by decide) rfl rfl rfl rfl rfl rfl (Nat.le_of_ble_eq_true rfl) ⟨Nat.zero_le _, Nat.zero_le _⟩ dX12_twins_48 ?_
                refine a_icmp_ne (pc := 51) (tgt := 58) F dX12_twins_51 (by decide) (fun h => ?_) (fun h => ?_)
                · replace hf := it_neg h hf
                  refine a_sub [0, 2, 3] rfl ?_
                  exact hK9 () hf
                · replace hf := it_pos h hf
                  refine a_iconst (pc := 54) F dX12_twins_54 kc_1 ?_
                  refine a_goto (pc := 55) (tgt := 59) F dX12_twins_55 (by decide) ?_
                  refine a_sub [0, 2, 3] rfl ?_
                  obtain rfl := Option.some.inj hf
                  exact J7
