abbrev wX7_lowest : List Cond := Cond.code yX7_lowest cX7_lowest 2 (some .int) :: WALL
def m_X7_lowest (n : Nat) (x0 : Int32) : Option (Int32) :=
lp (fun (rc1 : Int32 → Option (Int32)) (x1l : Int32) =>
(if 10 ≤ x1l then
some (-1)
else
(if ((x_shr x0 x1l) &&& 1) = 0 then
rc1 (x1l + 1)
else
some x1l))) n 0
set_option maxHeartbeats 4000000 in
set_option maxRecDepth 100000 in
theorem c_X7_lowest (l : Launch) (D : va_G) (y : Nat → ClassId) (ek : EK) (n : Nat) (x0 : Int32) (res : Int32) (hf : m_X7_lowest n x0 = some res) : CI l yX7_lowest wX7_lowest { frames := 0, cells := 0, slots := 0, locals := 0 } D y ek [.int x0] [] (res) [] 0 0 := by
  unfold m_X7_lowest at hf
  refine ci_of (cc := cX7_lowest) (maxL := 2) (by decide) rfl rfl (Nat.le_of_ble_eq_true rfl) ?_
  intro p e s m below meth c Q A F hret
  refine a_lv (lv' := [(0, .int x0)]) rfl ?_
  refine a_iconst (pc := 0) F dX7_lowest_0 kc_0 ?_
  refine a_istoren (pc := 1) (lv' := [(0, .int x0), (1, .int 0)]) F [1, 0] dX7_lowest_1 rfl (by decide) rfl ?_
  refine a_loop 2 (fun (x1l : Int32) => [(0, .int x0), (1, .int x1l)]) (fun (x1l : Int32) => []) (fun rc1 x1l ih1 hf => ?_) hf rfl rfl
  try dsimp only at hf ⊢
  refine a_iloadn (pc := 2) (j := 1) F dX7_lowest_2 rfl rfl ?_
  refine a_bipush (pc := 3) F dX7_lowest_3 kb_10 ?_
  refine a_icmp_ge (pc := 5) (tgt := 24) F dX7_lowest_5 (by decide) (fun h => ?_) (fun h => ?_)
  · replace hf := it_pos h hf
    refine a_iconst (pc := 24) F dX7_lowest_24 kc_m1 ?_
    obtain rfl := Option.some.inj hf
    exact hret _ _ _ _ (Nat.zero_le _) (Nat.zero_le _) rfl dX7_lowest_25
  · replace hf := it_neg h hf
    refine a_iloadn (pc := 8) (j := 0) F dX7_lowest_8 rfl rfl ?_
    refine a_iloadn (pc := 9) (j := 1) F dX7_lowest_9 rfl rfl ?_
    refine a_ishr (pc := 10) F dX7_lowest_10 ?_
    refine a_iconst (pc := 11) F dX7_lowest_11 kc_1 ?_
    refine a_iand (pc := 12) F dX7_lowest_12 ?_
    refine a_if_eq (pc := 13) (tgt := 18) F dX7_lowest_13 (by decide) (fun h => ?_) (fun h => ?_)
    · replace hf := it_pos h hf
      refine a_iinc (pc := 18) (j := 1) (v := (x1l + 1)) (lv' := [(0, .int x0), (1, .int (x1l + 1))]) F [1, 0] dX7_lowest_18 rfl ki_1 (by decide) rfl ?_
      refine a_goto (pc := 21) (tgt := 2) F dX7_lowest_21 (by decide) ?_
      exact ih1 (x1l + 1) hf
    · replace hf := it_neg h hf
      refine a_iloadn (pc := 16) (j := 1) F dX7_lowest_16 rfl rfl ?_
      obtain rfl := Option.some.inj hf
      exact hret _ _ _ _ (Nat.zero_le _) (Nat.zero_le _) rfl dX7_lowest_17

abbrev wX7_leastSum : List Cond := Cond.code yX7_leastSum cX7_leastSum 9 (some .int) :: WALL
def G_X7_leastSum (n : Nat) : Nat → Nat → St → Int32 → Int32 → Option (Int32)
  | 0, _, _, _, _ => none
  | d + 1, _, v0, x1, x2 =>
    bd (m_X7_lowest n x1) (fun t1 =>
    (if t1 = (-1) then
    some 0
    else
    (if x2 ≤ 8 then
    nm (x1 &&& ((x_shl 1 t1) ^^^ (-1))) (fun x4_2 =>
    nm (t1 + 1) (fun x6_3 =>
    lp (fun (rc4 : Int32 × Int32 → Option (Int32)) (x4l : Int32 × Int32) =>
    (if 10 ≤ x4l.2 then
    some x4l.1
    else
    bd ((if ((x_shr x4_2 x4l.2) &&& 1) = 0 then
    some x4l.1
    else
    bd (G_X7_leastSum n d 0 v0 (x4_2 &&& ((x_shl 1 x4l.2) ^^^ (-1))) (x2 + 1)) (fun t6 =>
    (if ix t1 10 then (if ix x4l.2 10 then nm ((x_abs ((v0 0 (t1).toNatClampNeg) - (v0 0 (x4l.2).toNatClampNeg))) + t6) (fun x8_9 =>
    bd ((if x4l.1 = (-1) then
    some x8_9
    else
    some (x_min x4l.1 x8_9))) (fun (t10 : Int32) =>
    some t10)) else none) else none)))) (fun (t5 : Int32) =>
    rc4 (t5, (x4l.2 + 1))))) n ((-1), x6_3)))
    else
    some 0)))
set_option maxHeartbeats 4000000 in
set_option maxRecDepth 100000 in
theorem c_G_X7_leastSum (l : Launch) (D : va_G) (y : Nat → ClassId) (ek : EK) (n : Nat) : ∀ d : Nat, (∀ (a0 : Nat → Nat) (v0 : St) (x1 : Int32) (x2 : Int32) (res : Int32), G_X7_leastSum n d 0 v0 x1 x2 = some res → CI l yX7_leastSum wX7_leastSum { frames := 1 * d + 1, cells := 0, slots := 0, locals := 28 * d + 21 } D y ek [.ref (a0 0), .int x1, .int x2] [bAI10 y a0 v0] (res) [bAI10 y a0 v0] 0 0) := by
  intro d
  induction d with
  | zero =>
    intro a0 v0 x1 x2 res hf
    cases hf
  | succ d ih =>
    have gh0 := ih
    intro a0 v0 x1 x2 res hf
    unfold G_X7_leastSum at hf
    refine ci_of (cc := cX7_leastSum) (maxL := 9) (by decide) rfl rfl (Nat.le_of_ble_eq_true rfl) ?_
    intro p e s m below meth c Q A F hret
    refine a_lv (lv' := [(0, .ref (a0 0)), (1, .int x1), (2, .int x2)]) rfl ?_
    refine a_iloadn (pc := 0) (j := 1) F dX7_leastSum_0 rfl rfl ?_
    obtain ⟨t1, ht1, hf⟩ := bd_some hf
    refine a_callS (pc := 1) (bs' := [bAI10 y a0 v0]) F [] (c_X7_lowest l D y ek n  _ _ ht1) (va_cwS 1 F.1.2.2.2.2 (gS q5_142 q5_143 q1_28 q5_144) rfl rfl rfl (by decide +kernel) ⟨by show 1 ≤ 1 * (d + 1) + 1; omega, by show 21 ≤ 28 * (d + 1) + 21; omega⟩) (by decide) rfl rfl rfl rfl rfl rfl (Nat.le_of_ble_eq_true rfl) ⟨Nat.zero_le _, Nat.zero_le _⟩ dX7_leastSum_1 ?_
    refine a_istoren (pc := 4) (lv' := [(0, .ref (a0 0)), (1, .int x1), (2, .int x2), (3, .int t1)]) F [1, 2, 3, 0] dX7_leastSum_4 rfl (by decide) rfl ?_
    refine a_iloadn (pc := 5) (j := 3) F dX7_leastSum_5 rfl rfl ?_
    refine a_iconst (pc := 6) F dX7_leastSum_6 kc_m1 ?_
    refine a_icmp_eq (pc := 7) (tgt := 16) F dX7_leastSum_7 (by decide) (fun h => ?_) (fun h => ?_)
    · replace hf := it_pos h hf
      refine a_iconst (pc := 16) F dX7_leastSum_16 kc_0 ?_
      obtain rfl := Option.some.inj hf
      exact hret _ _ _ _ (Nat.zero_le _) (Nat.zero_le _) rfl dX7_leastSum_17
    · replace hf := it_neg h hf
      refine a_iloadn (pc := 10) (j := 2) F dX7_leastSum_10 rfl rfl ?_
      refine a_bipush (pc := 11) F dX7_leastSum_11 kb_8 ?_
      refine a_icmp_le (pc := 13) (tgt := 18) F dX7_leastSum_13 (by decide) (fun h => ?_) (fun h => ?_)
      · replace hf := it_pos h hf
        refine a_iloadn (pc := 18) (j := 1) F dX7_leastSum_18 rfl rfl ?_
        refine a_iconst (pc := 19) F dX7_leastSum_19 kc_1 ?_
        refine a_iloadn (pc := 20) (j := 3) F dX7_leastSum_20 rfl rfl ?_
        refine a_ishl (pc := 21) F dX7_leastSum_21 ?_
        refine a_iconst (pc := 22) F dX7_leastSum_22 kc_m1 ?_
        refine a_ixor (pc := 23) F dX7_leastSum_23 ?_
        refine a_iand (pc := 24) F dX7_leastSum_24 ?_
        obtain ⟨x4_2, ex4_2, hf⟩ := nm_some hf
        refine a_nmi ex4_2 ?_
        refine a_istore (pc := 25) (lv' := [(0, .ref (a0 0)), (1, .int x1), (2, .int x2), (3, .int t1), (4, .int x4_2)]) F [1, 2, 3, 4, 0] dX7_leastSum_25 (by decide) rfl ?_
        refine a_iconst (pc := 27) F dX7_leastSum_27 kc_m1 ?_
        refine a_istore (pc := 28) (lv' := [(0, .ref (a0 0)), (1, .int x1), (2, .int x2), (3, .int t1), (4, .int x4_2), (5, .int (-1))]) F [1, 2, 3, 4, 5, 0] dX7_leastSum_28 (by decide) rfl ?_
        refine a_iloadn (pc := 30) (j := 3) F dX7_leastSum_30 rfl rfl ?_
        refine a_iconst (pc := 31) F dX7_leastSum_31 kc_1 ?_
        refine a_iadd (pc := 32) F dX7_leastSum_32 ?_
        obtain ⟨x6_3, ex6_3, hf⟩ := nm_some hf
        refine a_nmi ex6_3 ?_
        refine a_istore (pc := 33) (lv' := [(0, .ref (a0 0)), (1, .int x1), (2, .int x2), (3, .int t1), (4, .int x4_2), (5, .int (-1)), (6, .int x6_3)]) F [1, 2, 3, 4, 5, 6, 0] dX7_leastSum_33 (by decide) rfl ?_
        refine a_sub [0, 2, 3, 4, 5, 6] rfl ?_
        refine a_loop 35 (fun (x4l : Int32 × Int32) => [(0, .ref (a0 0)), (2, .int x2), (3, .int t1), (4, .int x4_2), (5, .int x4l.1), (6, .int x4l.2)]) (fun (x4l : Int32 × Int32) => [bAI10 y a0 v0]) (fun rc4 x4l ih4 hf => ?_) hf rfl rfl
        try dsimp only at hf ⊢
        refine a_iload (pc := 35) (j := 5) F dX7_leastSum_35 rfl ?_
        refine a_bipush (pc := 37) F dX7_leastSum_37 kb_10 ?_
        refine a_icmp_ge (pc := 39) (tgt := 112) F dX7_leastSum_39 (by decide) (fun h => ?_) (fun h => ?_)
        · replace hf := it_pos h hf
          refine a_iload (pc := 112) (j := 4) F dX7_leastSum_112 rfl ?_
          obtain rfl := Option.some.inj hf
          exact hret _ _ _ _ (Nat.zero_le _) (Nat.zero_le _) rfl dX7_leastSum_114
        · replace hf := it_neg h hf
          refine a_iload (pc := 42) (j := 3) F dX7_leastSum_42 rfl ?_
          refine a_iload (pc := 44) (j := 5) F dX7_leastSum_44 rfl ?_
          refine a_ishr (pc := 46) F dX7_leastSum_46 ?_
          refine a_iconst (pc := 47) F dX7_leastSum_47 kc_1 ?_
          refine a_iand (pc := 48) F dX7_leastSum_48 ?_
          refine a_join 106 (fun (t5 : Int32) => [(0, .ref (a0 0)), (2, .int x2), (3, .int t1), (4, .int x4_2), (5, .int t5), (6, .int x4l.2)]) (fun (t5 : Int32) => []) (fun (t5 : Int32) => [bAI10 y a0 v0]) hf (fun t5 hf => ?_) (fun t5 hf J5 => ?_)
          · try dsimp only at hf ⊢
            refine a_iinc (pc := 106) (j := 5) (v := (x4l.2 + 1)) (lv' := [(0, .ref (a0 0)), (2, .int x2), (3, .int t1), (4, .int x4_2), (5, .int t5), (6, .int (x4l.2 + 1))]) F [1, 2, 3, 4, 5, 0] dX7_leastSum_106 rfl ki_1 (by decide) rfl ?_
            refine a_goto (pc := 109) (tgt := 35) F dX7_leastSum_109 (by decide) ?_
            exact ih4 (t5, (x4l.2 + 1)) hf
          · refine a_if_eq (pc := 49) (tgt := 106) F dX7_leastSum_49 (by decide) (fun h => ?_) (fun h => ?_)
            · replace hf := it_pos h hf
              obtain rfl := Option.some.inj hf
              exact J5
            · replace hf := it_neg h hf
              refine a_aloadn (pc := 52) (j := 0) F dX7_leastSum_52 rfl rfl ?_
              refine a_iload (pc := 53) (j := 3) F dX7_leastSum_53 rfl ?_
              refine a_iconst (pc := 55) F dX7_leastSum_55 kc_1 ?_
              refine a_iload (pc := 56) (j := 5) F dX7_leastSum_56 rfl ?_
              refine a_ishl (pc := 58) F dX7_leastSum_58 ?_
              refine a_iconst (pc := 59) F dX7_leastSum_59 kc_m1 ?_
              refine a_ixor (pc := 60) F dX7_leastSum_60 ?_
              refine a_iand (pc := 61) F dX7_leastSum_61 ?_
              refine a_iloadn (pc := 62) (j := 1) F dX7_leastSum_62 rfl rfl ?_
              refine a_iconst (pc := 63) F dX7_leastSum_63 kc_1 ?_
              refine a_iadd (pc := 64) F dX7_leastSum_64 ?_
              obtain ⟨t6, ht6, hf⟩ := bd_some hf
              refine a_callS (pc := 65) (bs' := [bAI10 y a0 v0]) F [0] (gh0 a0 _ _ _ _ ht6) (va_cwS 3 F.1.2.2.2.2 (gS q5_139 q5_140 q1_28 q5_141) rfl rfl rfl (by decide +kernel) ⟨by show (1 * d + 1) + 1 ≤ 1 * (d + 1) + 1; omega, by show 8 + (9 + 11) + (28 * d + 21) ≤ 28 * (d + 1) + 21; omega⟩) (by decide) rfl rfl rfl rfl rfl rfl (Nat.le_of_ble_eq_true rfl) ⟨Nat.zero_le _, Nat.zero_le _⟩ dX7_leastSum_65 ?_
              refine a_istore (pc := 68) (lv' := [(0, .ref (a0 0)), (2, .int x2), (3, .int t1), (4, .int x4_2), (5, .int x4l.1), (6, .int x4l.2), (7, .int t6)]) F [1, 2, 3, 4, 5, 6, 0] dX7_leastSum_68 (by decide) rfl ?_
              refine a_aloadn (pc := 70) (j := 0) F dX7_leastSum_70 rfl rfl ?_
              refine a_iloadn (pc := 71) (j := 2) F dX7_leastSum_71 rfl rfl ?_
              obtain ⟨h7, hf⟩ := gd_some hf
              refine a_iald (pc := 72) (kb := 0) (j := 0) F rfl rfl h7 dX7_leastSum_72 ?_
              refine a_aloadn (pc := 73) (j := 0) F dX7_leastSum_73 rfl rfl ?_
              refine a_iload (pc := 74) (j := 5) F dX7_leastSum_74 rfl ?_
              obtain ⟨h8, hf⟩ := gd_some hf
              refine a_iald (pc := 76) (kb := 0) (j := 0) F rfl rfl h8 dX7_leastSum_76 ?_
              refine a_isub (pc := 77) F dX7_leastSum_77 ?_
              refine a_mabs (pc := 78) F (tl q5_145) (tl q5_78) (tl q1_22) (tl q_math_abs) (by show 1 ≤ 1 * (d + 1) + 1; omega) (by show 13 ≤ 28 * (d + 1) + 21; omega) (Nat.zero_le _) (Nat.zero_le _) dX7_leastSum_78 ?_
              refine a_iload (pc := 81) (j := 6) F dX7_leastSum_81 rfl ?_
              refine a_iadd (pc := 83) F dX7_leastSum_83 ?_
              obtain ⟨x8_9, ex8_9, hf⟩ := nm_some hf
              refine a_nmi ex8_9 ?_
              refine a_istore (pc := 84) (lv' := [(0, .ref (a0 0)), (2, .int x2), (3, .int t1), (4, .int x4_2), (5, .int x4l.1), (6, .int x4l.2), (7, .int t6), (8, .int x8_9)]) F [1, 2, 3, 4, 5, 6, 7, 0] dX7_leastSum_84 (by decide) rfl ?_
              refine a_iload (pc := 86) (j := 4) F dX7_leastSum_86 rfl ?_
              refine a_iconst (pc := 88) F dX7_leastSum_88 kc_m1 ?_
              refine a_join 104 (fun (t10 : Int32) => [(0, .ref (a0 0)), (2, .int x2), (3, .int t1), (4, .int x4_2), (6, .int x4l.2)]) (fun (t10 : Int32) => [.int t10]) (fun (t10 : Int32) => [bAI10 y a0 v0]) hf (fun t10 hf => ?_) (fun t10 hf J10 => ?_)
              · try dsimp only at hf ⊢
                refine a_istore (pc := 104) (lv' := [(0, .ref (a0 0)), (2, .int x2), (3, .int t1), (4, .int x4_2), (5, .int t10), (6, .int x4l.2)]) F [1, 2, 3, 4, 0, 5] dX7_leastSum_104 (by decide) rfl ?_
                obtain rfl := Option.some.inj hf
                exact J5
              · refine a_icmp_ne (pc := 89) (tgt := 97) F dX7_leastSum_89 (by decide) (fun h => ?_) (fun h => ?_)
                · replace hf := it_neg h hf
                  refine a_iload (pc := 97) (j := 4) F dX7_leastSum_97 rfl ?_
                  refine a_iload (pc := 99) (j := 7) F dX7_leastSum_99 rfl ?_
                  refine a_mmin (pc := 101) F (tl q5_146) (tl q2_170) (tl q1_22) (tl q_math_min) (by show 1 ≤ 1 * (d + 1) + 1; omega) (by show 13 ≤ 28 * (d + 1) + 21; omega) (Nat.zero_le _) (Nat.zero_le _) dX7_leastSum_101 ?_
                  refine a_sub [0, 1, 2, 3, 5] rfl ?_
                  obtain rfl := Option.some.inj hf
                  exact J10
                · replace hf := it_pos h hf
                  refine a_iload (pc := 92) (j := 7) F dX7_leastSum_92 rfl ?_
                  refine a_goto (pc := 94) (tgt := 104) F dX7_leastSum_94 (by decide) ?_
                  refine a_sub [0, 1, 2, 3, 5] rfl ?_
                  obtain rfl := Option.some.inj hf
                  exact J10
      · replace hf := it_neg h hf
        refine a_iconst (pc := 16) F dX7_leastSum_16 kc_0 ?_
        obtain rfl := Option.some.inj hf
        exact hret _ _ _ _ (Nat.zero_le _) (Nat.zero_le _) rfl dX7_leastSum_17
def m_X7_leastSum (n : Nat) (v0 : St) (x1 : Int32) (x2 : Int32) : Option (Int32) := G_X7_leastSum n 64 0 v0 x1 x2
theorem c_X7_leastSum (l : Launch) (D : va_G) (y : Nat → ClassId) (ek : EK) (n : Nat) (a0 : Nat → Nat) (v0 : St) (x1 : Int32) (x2 : Int32) (res : Int32) (hf : m_X7_leastSum n v0 x1 x2 = some res) : CI l yX7_leastSum wX7_leastSum { frames := 65, cells := 0, slots := 0, locals := 1813 } D y ek [.ref (a0 0), .int x1, .int x2] [bAI10 y a0 v0] (res) [bAI10 y a0 v0] 0 0 :=
  (c_G_X7_leastSum l D y ek n 64) a0 v0 x1 x2 res hf

abbrev wX7_howMuch : List Cond := Cond.code yX7_howMuch cX7_howMuch 2 (some .int) :: WALL
def m_X7_howMuch (n : Nat) (v0 : St) (x1 : Int32) : Option (Int32) :=
bd (m_X7_leastSum n v0 x1 0) (fun t1 =>
some t1)
set_option maxHeartbeats 4000000 in
set_option maxRecDepth 100000 in
theorem c_X7_howMuch (l : Launch) (D : va_G) (y : Nat → ClassId) (ek : EK) (n : Nat) (a0 : Nat → Nat) (v0 : St) (x1 : Int32) (res : Int32) (hf : m_X7_howMuch n v0 x1 = some res) : CI l yX7_howMuch wX7_howMuch { frames := 66, cells := 0, slots := 0, locals := 1841 } D y ek [.ref (a0 0), .int x1] [bAI10 y a0 v0] (res) [bAI10 y a0 v0] 0 0 := by
  unfold m_X7_howMuch at hf
  refine ci_of (cc := cX7_howMuch) (maxL := 2) (by decide) rfl rfl (Nat.le_of_ble_eq_true rfl) ?_
  intro p e s m below meth c Q A F hret
  refine a_lv (lv' := [(0, .ref (a0 0)), (1, .int x1)]) rfl ?_
  refine a_aloadn (pc := 0) (j := 0) F dX7_howMuch_0 rfl rfl ?_
  refine a_iloadn (pc := 1) (j := 1) F dX7_howMuch_1 rfl rfl ?_
  refine a_iconst (pc := 2) F dX7_howMuch_2 kc_0 ?_
  obtain ⟨t1, ht1, hf⟩ := bd_some hf
  refine a_callS (pc := 3) (bs' := [bAI10 y a0 v0]) F [0] (c_X7_leastSum l D y ek n a0 _ _ _ _ ht1) (va_cwS 3 F.1.2.2.2.2 (gS q5_139 q5_140 q1_28 q5_141) rfl rfl rfl (by decide +kernel) ⟨Nat.le_of_ble_eq_true rfl, Nat.le_of_ble_eq_true rfl⟩) (by decide) rfl rfl rfl rfl rfl rfl (Nat.le_of_ble_eq_true rfl) ⟨Nat.zero_le _, Nat.zero_le _⟩ dX7_howMuch_3 ?_
  obtain rfl := Option.some.inj hf
  exact hret _ _ _ _ (Nat.zero_le _) (Nat.zero_le _) rfl dX7_howMuch_6

abbrev wX7_firstPartner : List Cond := Cond.code yX7_firstPartner cX7_firstPartner 6 (some .int) :: WALL
def m_X7_firstPartner (n : Nat) (v0 : St) (x1 : Int32) (x2 : Int32) : Option (Int32) :=
bd (m_X7_leastSum n v0 x1 0) (fun t1 =>
nm (x2 + 1) (fun x4_2 =>
lp (fun (rc3 : Int32 → Option (Int32)) (x3l : Int32) =>
(if 10 ≤ x3l then
some (-1)
else
jn (fun (t4 : Unit) =>
rc3 (x3l + 1)) (fun (K4 : Unit → Option (Int32)) =>
(if ((x_shr x1 x3l) &&& 1) = 0 then
K4 ()
else
bd (m_X7_leastSum n v0 ((x1 &&& ((x_shl 1 x2) ^^^ (-1))) &&& ((x_shl 1 x3l) ^^^ (-1))) 0) (fun t5 =>
(if ix x2 10 then (if ix x3l 10 then (if ((x_abs ((v0 0 (x2).toNatClampNeg) - (v0 0 (x3l).toNatClampNeg))) + t5) = t1 then
some x3l
else
K4 ()) else none) else none)))))) n x4_2))
set_option maxHeartbeats 4000000 in
set_option maxRecDepth 100000 in
theorem c_X7_firstPartner (l : Launch) (D : va_G) (y : Nat → ClassId) (ek : EK) (n : Nat) (a0 : Nat → Nat) (v0 : St) (x1 : Int32) (x2 : Int32) (res : Int32) (hf : m_X7_firstPartner n v0 x1 x2 = some res) : CI l yX7_firstPartner wX7_firstPartner { frames := 66, cells := 0, slots := 0, locals := 1841 } D y ek [.ref (a0 0), .int x1, .int x2] [bAI10 y a0 v0] (res) [bAI10 y a0 v0] 0 0 := by
  unfold m_X7_firstPartner at hf
  refine ci_of (cc := cX7_firstPartner) (maxL := 6) (by decide) rfl rfl (Nat.le_of_ble_eq_true rfl) ?_
  intro p e s m below meth c Q A F hret
  refine a_lv (lv' := [(0, .ref (a0 0)), (1, .int x1), (2, .int x2)]) rfl ?_
  refine a_aloadn (pc := 0) (j := 0) F dX7_firstPartner_0 rfl rfl ?_
  refine a_iloadn (pc := 1) (j := 1) F dX7_firstPartner_1 rfl rfl ?_
  refine a_iconst (pc := 2) F dX7_firstPartner_2 kc_0 ?_
  obtain ⟨t1, ht1, hf⟩ := bd_some hf
  refine a_callS (pc := 3) (bs' := [bAI10 y a0 v0]) F [0] (c_X7_leastSum l D y ek n a0 _ _ _ _ ht1) (va_cwS 3 F.1.2.2.2.2 (gS q5_139 q5_140 q1_28 q5_141) rfl rfl rfl (by decide +kernel) ⟨Nat.le_of_ble_eq_true rfl, Nat.le_of_ble_eq_true rfl⟩) (by decide) rfl rfl rfl rfl rfl rfl (Nat.le_of_ble_eq_true rfl) ⟨Nat.zero_le _, Nat.zero_le _⟩ dX7_firstPartner_3 ?_
  refine a_istoren (pc := 6) (lv' := [(0, .ref (a0 0)), (1, .int x1), (2, .int x2), (3, .int t1)]) F [1, 2, 3, 0] dX7_firstPartner_6 rfl (by decide) rfl ?_
  refine a_iloadn (pc := 7) (j := 2) F dX7_firstPartner_7 rfl rfl ?_
  refine a_iconst (pc := 8) F dX7_firstPartner_8 kc_1 ?_
  refine a_iadd (pc := 9) F dX7_firstPartner_9 ?_
  obtain ⟨x4_2, ex4_2, hf⟩ := nm_some hf
  refine a_nmi ex4_2 ?_
  refine a_istore (pc := 10) (lv' := [(0, .ref (a0 0)), (1, .int x1), (2, .int x2), (3, .int t1), (4, .int x4_2)]) F [1, 2, 3, 4, 0] dX7_firstPartner_10 (by decide) rfl ?_
  refine a_loop 12 (fun (x3l : Int32) => [(0, .ref (a0 0)), (1, .int x1), (2, .int x2), (3, .int t1), (4, .int x3l)]) (fun (x3l : Int32) => [bAI10 y a0 v0]) (fun rc3 x3l ih3 hf => ?_) hf rfl rfl
  try dsimp only at hf ⊢
  refine a_iload (pc := 12) (j := 4) F dX7_firstPartner_12 rfl ?_
  refine a_bipush (pc := 14) F dX7_firstPartner_14 kb_10 ?_
  refine a_icmp_ge (pc := 16) (tgt := 79) F dX7_firstPartner_16 (by decide) (fun h => ?_) (fun h => ?_)
  · replace hf := it_pos h hf
    refine a_iconst (pc := 79) F dX7_firstPartner_79 kc_m1 ?_
    obtain rfl := Option.some.inj hf
    exact hret _ _ _ _ (Nat.zero_le _) (Nat.zero_le _) rfl dX7_firstPartner_80
  · replace hf := it_neg h hf
    refine a_iloadn (pc := 19) (j := 1) F dX7_firstPartner_19 rfl rfl ?_
    refine a_iload (pc := 20) (j := 4) F dX7_firstPartner_20 rfl ?_
    refine a_ishr (pc := 22) F dX7_firstPartner_22 ?_
    refine a_iconst (pc := 23) F dX7_firstPartner_23 kc_1 ?_
    refine a_iand (pc := 24) F dX7_firstPartner_24 ?_
    refine a_jn 73 (fun (t4 : Unit) => [(0, .ref (a0 0)), (1, .int x1), (2, .int x2), (3, .int t1), (4, .int x3l)]) (fun (t4 : Unit) => []) (fun (t4 : Unit) => [bAI10 y a0 v0]) hf (fun t4 hf => ?_) (fun K4 hK4 hf => ?_)
    · try dsimp only at hf ⊢
      refine a_iinc (pc := 73) (j := 4) (v := (x3l + 1)) (lv' := [(0, .ref (a0 0)), (1, .int x1), (2, .int x2), (3, .int t1), (4, .int (x3l + 1))]) F [1, 2, 3, 4, 0] dX7_firstPartner_73 rfl ki_1 (by decide) rfl ?_
      refine a_goto (pc := 76) (tgt := 12) F dX7_firstPartner_76 (by decide) ?_
      exact ih3 (x3l + 1) hf
    · try dsimp only at hf
      refine a_if_ne (pc := 25) (tgt := 31) F dX7_firstPartner_25 (by decide) (fun h => ?_) (fun h => ?_)
      · replace hf := it_neg h hf
        refine a_aloadn (pc := 31) (j := 0) F dX7_firstPartner_31 rfl rfl ?_
        refine a_iloadn (pc := 32) (j := 1) F dX7_firstPartner_32 rfl rfl ?_
        refine a_iconst (pc := 33) F dX7_firstPartner_33 kc_1 ?_
        refine a_iloadn (pc := 34) (j := 2) F dX7_firstPartner_34 rfl rfl ?_
        refine a_ishl (pc := 35) F dX7_firstPartner_35 ?_
        refine a_iconst (pc := 36) F dX7_firstPartner_36 kc_m1 ?_
        refine a_ixor (pc := 37) F dX7_firstPartner_37 ?_
        refine a_iand (pc := 38) F dX7_firstPartner_38 ?_
        refine a_iconst (pc := 39) F dX7_firstPartner_39 kc_1 ?_
        refine a_iload (pc := 40) (j := 4) F dX7_firstPartner_40 rfl ?_
        refine a_ishl (pc := 42) F dX7_firstPartner_42 ?_
        refine a_iconst (pc := 43) F dX7_firstPartner_43 kc_m1 ?_
        refine a_ixor (pc := 44) F dX7_firstPartner_44 ?_
        refine a_iand (pc := 45) F dX7_firstPartner_45 ?_
        refine a_iconst (pc := 46) F dX7_firstPartner_46 kc_0 ?_
        obtain ⟨t5, ht5, hf⟩ := bd_some hf
        refine a_callS (pc := 47) (bs' := [bAI10 y a0 v0]) F [0] (c_X7_leastSum l D y ek n a0 _ _ _ _ ht5) (va_cwS 3 F.1.2.2.2.2 (gS q5_139 q5_140 q1_28 q5_141) rfl rfl rfl (by decide +kernel) ⟨Nat.le_of_ble_eq_true rfl, Nat.le_of_ble_eq_true rfl⟩) (by decide) rfl rfl rfl rfl rfl rfl (Nat.le_of_ble_eq_true rfl) ⟨Nat.zero_le _, Nat.zero_le _⟩ dX7_firstPartner_47 ?_
        refine a_istore (pc := 50) (lv' := [(0, .ref (a0 0)), (1, .int x1), (2, .int x2), (3, .int t1), (4, .int x3l), (5, .int t5)]) F [1, 2, 3, 4, 5, 0] dX7_firstPartner_50 (by decide) rfl ?_
        refine a_aloadn (pc := 52) (j := 0) F dX7_firstPartner_52 rfl rfl ?_
        refine a_iloadn (pc := 53) (j := 2) F dX7_firstPartner_53 rfl rfl ?_
        obtain ⟨h6, hf⟩ := gd_some hf
        refine a_iald (pc := 54) (kb := 0) (j := 0) F rfl rfl h6 dX7_firstPartner_54 ?_
        refine a_aloadn (pc := 55) (j := 0) F dX7_firstPartner_55 rfl rfl ?_
        refine a_iload (pc := 56) (j := 4) F dX7_firstPartner_56 rfl ?_
        obtain ⟨h7, hf⟩ := gd_some hf
        refine a_iald (pc := 58) (kb := 0) (j := 0) F rfl rfl h7 dX7_firstPartner_58 ?_
        refine a_isub (pc := 59) F dX7_firstPartner_59 ?_
        refine a_mabs (pc := 60) F (tl q5_145) (tl q5_78) (tl q1_22) (tl q_math_abs) (Nat.le_of_ble_eq_true rfl) (Nat.le_of_ble_eq_true rfl) (Nat.zero_le _) (Nat.zero_le _) dX7_firstPartner_60 ?_
        refine a_iload (pc := 63) (j := 5) F dX7_firstPartner_63 rfl ?_
        refine a_iadd (pc := 65) F dX7_firstPartner_65 ?_
        refine a_iloadn (pc := 66) (j := 3) F dX7_firstPartner_66 rfl rfl ?_
        refine a_icmp_ne (pc := 67) (tgt := 73) F dX7_firstPartner_67 (by decide) (fun h => ?_) (fun h => ?_)
        · replace hf := it_neg h hf
          refine a_sub [0, 1, 2, 3, 4] rfl ?_
          exact hK4 () hf
        · replace hf := it_pos h hf
          refine a_iload (pc := 70) (j := 4) F dX7_firstPartner_70 rfl ?_
          obtain rfl := Option.some.inj hf
          exact hret _ _ _ _ (Nat.zero_le _) (Nat.zero_le _) rfl dX7_firstPartner_72
      · replace hf := it_pos h hf
        refine a_goto (pc := 28) (tgt := 73) F dX7_firstPartner_28 (by decide) ?_
        exact hK4 () hf

abbrev wX7_partnerOf : List Cond := Cond.code yX7_partnerOf cX7_partnerOf 7 (some .int) :: WALL
def m_X7_partnerOf (n : Nat) (v0 : St) (x1 : Int32) (x2 : Int32) : Option (Int32) :=
jn (fun (t1 : Unit) =>
some (-1)) (fun (K1 : Unit → Option (Int32)) =>
lp (fun (rc2 : Int32 × Int32 → Option (Int32)) (x2l : Int32 × Int32) =>
(if 8 ≤ x2l.2 then
K1 ()
else
(if x2l.1 = 0 then
K1 ()
else
bd (m_X7_lowest n x2l.1) (fun t3 =>
bd (m_X7_firstPartner n v0 x2l.1 t3) (fun t4 =>
(if t4 = (-1) then
some (-1)
else
(if t3 = x2 then
some t4
else
(if t4 = x2 then
some t3
else
nm (x2l.1 &&& (((x_shl 1 t3) ^^^ (-1)) &&& ((x_shl 1 t4) ^^^ (-1)))) (fun x3_5 =>
rc2 (x3_5, (x2l.2 + 1))))))))))) n (x1, 0))
set_option maxHeartbeats 4000000 in
set_option maxRecDepth 100000 in
theorem c_X7_partnerOf (l : Launch) (D : va_G) (y : Nat → ClassId) (ek : EK) (n : Nat) (a0 : Nat → Nat) (v0 : St) (x1 : Int32) (x2 : Int32) (res : Int32) (hf : m_X7_partnerOf n v0 x1 x2 = some res) : CI l yX7_partnerOf wX7_partnerOf { frames := 67, cells := 0, slots := 0, locals := 1866 } D y ek [.ref (a0 0), .int x1, .int x2] [bAI10 y a0 v0] (res) [bAI10 y a0 v0] 0 0 := by
  unfold m_X7_partnerOf at hf
  refine ci_of (cc := cX7_partnerOf) (maxL := 7) (by decide) rfl rfl (Nat.le_of_ble_eq_true rfl) ?_
  intro p e s m below meth c Q A F hret
  refine a_lv (lv' := [(0, .ref (a0 0)), (1, .int x1), (2, .int x2)]) rfl ?_
  refine a_iloadn (pc := 0) (j := 1) F dX7_partnerOf_0 rfl rfl ?_
  refine a_istoren (pc := 1) (lv' := [(0, .ref (a0 0)), (1, .int x1), (2, .int x2), (3, .int x1)]) F [1, 2, 3, 0] dX7_partnerOf_1 rfl (by decide) rfl ?_
  refine a_iconst (pc := 2) F dX7_partnerOf_2 kc_0 ?_
  refine a_istore (pc := 3) (lv' := [(0, .ref (a0 0)), (1, .int x1), (2, .int x2), (3, .int x1), (4, .int 0)]) F [1, 2, 3, 4, 0] dX7_partnerOf_3 (by decide) rfl ?_
  refine a_jn 79 (fun (t1 : Unit) => []) (fun (t1 : Unit) => []) (fun (t1 : Unit) => [bAI10 y a0 v0]) hf (fun t1 hf => ?_) (fun K1 hK1 hf => ?_)
  · try dsimp only at hf ⊢
    refine a_iconst (pc := 79) F dX7_partnerOf_79 kc_m1 ?_
    obtain rfl := Option.some.inj hf
    exact hret _ _ _ _ (Nat.zero_le _) (Nat.zero_le _) rfl dX7_partnerOf_80
  · try dsimp only at hf
    refine a_sub [0, 2, 3, 4] rfl ?_
    refine a_loop 5 (fun (x2l : Int32 × Int32) => [(0, .ref (a0 0)), (2, .int x2), (3, .int x2l.1), (4, .int x2l.2)]) (fun (x2l : Int32 × Int32) => [bAI10 y a0 v0]) (fun rc2 x2l ih2 hf => ?_) hf rfl rfl
    try dsimp only at hf ⊢
    refine a_iload (pc := 5) (j := 3) F dX7_partnerOf_5 rfl ?_
    refine a_bipush (pc := 7) F dX7_partnerOf_7 kb_8 ?_
    refine a_icmp_ge (pc := 9) (tgt := 79) F dX7_partnerOf_9 (by decide) (fun h => ?_) (fun h => ?_)
    · replace hf := it_pos h hf
      refine a_sub [] rfl ?_
      exact hK1 () hf
    · replace hf := it_neg h hf
      refine a_iloadn (pc := 12) (j := 2) F dX7_partnerOf_12 rfl rfl ?_
      refine a_if_eq (pc := 13) (tgt := 79) F dX7_partnerOf_13 (by decide) (fun h => ?_) (fun h => ?_)
      · replace hf := it_pos h hf
        refine a_sub [] rfl ?_
        exact hK1 () hf
      · replace hf := it_neg h hf
        refine a_iloadn (pc := 16) (j := 2) F dX7_partnerOf_16 rfl rfl ?_
        obtain ⟨t3, ht3, hf⟩ := bd_some hf
        refine a_callS (pc := 17) (bs' := [bAI10 y a0 v0]) F [] (c_X7_lowest l D y ek n  _ _ ht3) (va_cwS 1 F.1.2.2.2.2 (gS q5_142 q5_143 q1_28 q5_144) rfl rfl rfl (by decide +kernel) ⟨Nat.le_of_ble_eq_true rfl, Nat.le_of_ble_eq_true rfl⟩) (by decide) rfl rfl rfl rfl rfl rfl (Nat.le_of_ble_eq_true rfl) ⟨Nat.zero_le _, Nat.zero_le _⟩ dX7_partnerOf_17 ?_
        refine a_istore (pc := 20) (lv' := [(0, .ref (a0 0)), (2, .int x2), (3, .int x2l.1), (4, .int x2l.2), (5, .int t3)]) F [1, 2, 3, 4, 0] dX7_partnerOf_20 (by decide) rfl ?_
        refine a_aloadn (pc := 22) (j := 0) F dX7_partnerOf_22 rfl rfl ?_
        refine a_iloadn (pc := 23) (j := 2) F dX7_partnerOf_23 rfl rfl ?_
        refine a_iload (pc := 24) (j := 4) F dX7_partnerOf_24 rfl ?_
        obtain ⟨t4, ht4, hf⟩ := bd_some hf
        refine a_callS (pc := 26) (bs' := [bAI10 y a0 v0]) F [0] (c_X7_firstPartner l D y ek n a0 _ _ _ _ ht4) (va_cwS 3 F.1.2.2.2.2 (gS q5_150 q5_151 q1_28 q5_152) rfl rfl rfl (by decide +kernel) ⟨Nat.le_of_ble_eq_true rfl, Nat.le_of_ble_eq_true rfl⟩) (by decide) rfl rfl rfl rfl rfl rfl (Nat.le_of_ble_eq_true rfl) ⟨Nat.zero_le _, Nat.zero_le _⟩ dX7_partnerOf_26 ?_
        refine a_istore (pc := 29) (lv' := [(0, .ref (a0 0)), (2, .int x2), (3, .int x2l.1), (4, .int x2l.2), (5, .int t3), (6, .int t4)]) F [1, 2, 3, 4, 5, 0] dX7_partnerOf_29 (by decide) rfl ?_
        refine a_iload (pc := 31) (j := 5) F dX7_partnerOf_31 rfl ?_
        refine a_iconst (pc := 33) F dX7_partnerOf_33 kc_m1 ?_
        refine a_icmp_ne (pc := 34) (tgt := 39) F dX7_partnerOf_34 (by decide) (fun h => ?_) (fun h => ?_)
        · replace hf := it_neg h hf
          refine a_iload (pc := 39) (j := 4) F dX7_partnerOf_39 rfl ?_
          refine a_iloadn (pc := 41) (j := 1) F dX7_partnerOf_41 rfl rfl ?_
          refine a_icmp_ne (pc := 42) (tgt := 48) F dX7_partnerOf_42 (by decide) (fun h => ?_) (fun h => ?_)
          · replace hf := it_neg h hf
            refine a_iload (pc := 48) (j := 5) F dX7_partnerOf_48 rfl ?_
            refine a_iloadn (pc := 50) (j := 1) F dX7_partnerOf_50 rfl rfl ?_
            refine a_icmp_ne (pc := 51) (tgt := 57) F dX7_partnerOf_51 (by decide) (fun h => ?_) (fun h => ?_)
            · replace hf := it_neg h hf
              refine a_iloadn (pc := 57) (j := 2) F dX7_partnerOf_57 rfl rfl ?_
              refine a_iconst (pc := 58) F dX7_partnerOf_58 kc_1 ?_
              refine a_iload (pc := 59) (j := 4) F dX7_partnerOf_59 rfl ?_
              refine a_ishl (pc := 61) F dX7_partnerOf_61 ?_
              refine a_iconst (pc := 62) F dX7_partnerOf_62 kc_m1 ?_
              refine a_ixor (pc := 63) F dX7_partnerOf_63 ?_
              refine a_iconst (pc := 64) F dX7_partnerOf_64 kc_1 ?_
              refine a_iload (pc := 65) (j := 5) F dX7_partnerOf_65 rfl ?_
              refine a_ishl (pc := 67) F dX7_partnerOf_67 ?_
              refine a_iconst (pc := 68) F dX7_partnerOf_68 kc_m1 ?_
              refine a_ixor (pc := 69) F dX7_partnerOf_69 ?_
              refine a_iand (pc := 70) F dX7_partnerOf_70 ?_
              refine a_iand (pc := 71) F dX7_partnerOf_71 ?_
              obtain ⟨x3_5, ex3_5, hf⟩ := nm_some hf
              refine a_nmi ex3_5 ?_
              refine a_istoren (pc := 72) (lv' := [(0, .ref (a0 0)), (2, .int x2), (3, .int x3_5), (4, .int x2l.2), (5, .int t3), (6, .int t4)]) F [1, 2, 0, 3, 4, 5] dX7_partnerOf_72 rfl (by decide) rfl ?_
              refine a_iinc (pc := 73) (j := 3) (v := (x2l.2 + 1)) (lv' := [(0, .ref (a0 0)), (2, .int x2), (3, .int x3_5), (4, .int (x2l.2 + 1)), (5, .int t3), (6, .int t4)]) F [1, 2, 3, 0, 4, 5] dX7_partnerOf_73 rfl ki_1 (by decide) rfl ?_
              refine a_goto (pc := 76) (tgt := 5) F dX7_partnerOf_76 (by decide) ?_
              refine a_sub [0, 1, 2, 3] rfl ?_
              exact ih2 (x3_5, (x2l.2 + 1)) hf
            · replace hf := it_pos h hf
              refine a_iload (pc := 54) (j := 4) F dX7_partnerOf_54 rfl ?_
              obtain rfl := Option.some.inj hf
              exact hret _ _ _ _ (Nat.zero_le _) (Nat.zero_le _) rfl dX7_partnerOf_56
          · replace hf := it_pos h hf
            refine a_iload (pc := 45) (j := 5) F dX7_partnerOf_45 rfl ?_
            obtain rfl := Option.some.inj hf
            exact hret _ _ _ _ (Nat.zero_le _) (Nat.zero_le _) rfl dX7_partnerOf_47
        · replace hf := it_pos h hf
          refine a_iconst (pc := 37) F dX7_partnerOf_37 kc_m1 ?_
          obtain rfl := Option.some.inj hf
          exact hret _ _ _ _ (Nat.zero_le _) (Nat.zero_le _) rfl dX7_partnerOf_38
