abbrev wX10_isLetter : List Cond := Cond.code yX10_isLetter cX10_isLetter 1 (some .boolean) :: WALL
def m_X10_isLetter (n : Nat) (x0 : Int32) : Option (Int32) :=
jn (fun (t1 : Unit) =>
some 0) (fun (K1 : Unit → Option (Int32)) =>
(if x0 < 97 then
K1 ()
else
(if 122 < x0 then
K1 ()
else
some 1)))
set_option maxHeartbeats 4000000 in
set_option maxRecDepth 100000 in
theorem c_X10_isLetter (l : Launch) (D : va_G) (y : Nat → ClassId) (ek : EK) (n : Nat) (x0 : Int32) (res : Int32) (hf : m_X10_isLetter n x0 = some res) : CI l yX10_isLetter wX10_isLetter { frames := 0, cells := 0, slots := 0, locals := 0 } D y ek [.int x0] [] (res) [] 0 0 := by
  unfold m_X10_isLetter at hf
  refine ci_of (cc := cX10_isLetter) (maxL := 1) (by decide) rfl rfl (Nat.le_of_ble_eq_true rfl) ?_
  intro p e s m below meth c Q A F hret
  refine a_lv (lv' := [(0, .int x0)]) rfl ?_
  refine a_iloadn (pc := 0) (j := 0) F dX10_isLetter_0 rfl rfl ?_
  refine a_bipush (pc := 1) F dX10_isLetter_1 kb_97 ?_
  refine a_jn 16 (fun (t1 : Unit) => []) (fun (t1 : Unit) => []) (fun (t1 : Unit) => []) hf (fun t1 hf => ?_) (fun K1 hK1 hf => ?_)
  · try dsimp only at hf ⊢
    refine a_iconst (pc := 16) F dX10_isLetter_16 kc_0 ?_
    obtain rfl := Option.some.inj hf
    exact hret _ _ _ _ (Nat.zero_le _) (Nat.zero_le _) (z_nar (Or.inl rfl)) dX10_isLetter_17
  · try dsimp only at hf
    refine a_icmp_lt (pc := 3) (tgt := 16) F dX10_isLetter_3 (by decide) (fun h => ?_) (fun h => ?_)
    · replace hf := it_pos h hf
      refine a_sub [] rfl ?_
      exact hK1 () hf
    · replace hf := it_neg h hf
      refine a_iloadn (pc := 6) (j := 0) F dX10_isLetter_6 rfl rfl ?_
      refine a_bipush (pc := 7) F dX10_isLetter_7 kb_122 ?_
      refine a_icmp_gt (pc := 9) (tgt := 16) F dX10_isLetter_9 (by decide) (fun h => ?_) (fun h => ?_)
      · replace hf := it_pos h hf
        refine a_sub [] rfl ?_
        exact hK1 () hf
      · replace hf := it_neg h hf
        refine a_iconst (pc := 12) F dX10_isLetter_12 kc_1 ?_
        refine a_goto (pc := 13) (tgt := 17) F dX10_isLetter_13 (by decide) ?_
        obtain rfl := Option.some.inj hf
        exact hret _ _ _ _ (Nat.zero_le _) (Nat.zero_le _) (z_nar (Or.inr rfl)) dX10_isLetter_17

abbrev wX10_lettersEnd : List Cond := Cond.code yX10_lettersEnd cX10_lettersEnd 4 (some .int) :: WALL
def m_X10_lettersEnd (n : Nat) (v0 : St) (x1 : Int32) (x2 : Int32) : Option (Int32) :=
nm (x1 + 1) (fun x3_1 =>
bd (lp (fun (rc3 : Int32 → Option (Int32)) (x3l : Int32) =>
(if x2 ≤ x3l then
some x3l
else
(if ix x3l 400 then bd (m_X10_isLetter n (v0 0 (x3l).toNatClampNeg)) (fun t5 =>
(if t5 = 0 then
some x3l
else
rc3 (x3l + 1))) else none))) n x3_1) (fun (t2 : Int32) =>
some t2))
set_option maxHeartbeats 4000000 in
set_option maxRecDepth 100000 in
theorem c_X10_lettersEnd (l : Launch) (D : va_G) (y : Nat → ClassId) (ek : EK) (n : Nat) (a0 : Nat → Nat) (v0 : St) (x1 : Int32) (x2 : Int32) (res : Int32) (hf : m_X10_lettersEnd n v0 x1 x2 = some res) : CI l yX10_lettersEnd wX10_lettersEnd { frames := 1, cells := 0, slots := 0, locals := 20 } D y ek [.ref (a0 0), .int x1, .int x2] [bAB400 y a0 v0] (res) [bAB400 y a0 v0] 0 0 := by
  unfold m_X10_lettersEnd at hf
  refine ci_of (cc := cX10_lettersEnd) (maxL := 4) (by decide) rfl rfl (Nat.le_of_ble_eq_true rfl) ?_
  intro p e s m below meth c Q A F hret
  refine a_lv (lv' := [(0, .ref (a0 0)), (1, .int x1), (2, .int x2)]) rfl ?_
  refine a_iloadn (pc := 0) (j := 1) F dX10_lettersEnd_0 rfl rfl ?_
  refine a_iconst (pc := 1) F dX10_lettersEnd_1 kc_1 ?_
  refine a_iadd (pc := 2) F dX10_lettersEnd_2 ?_
  obtain ⟨x3_1, ex3_1, hf⟩ := nm_some hf
  refine a_nmi ex3_1 ?_
  refine a_istoren (pc := 3) (lv' := [(0, .ref (a0 0)), (1, .int x1), (2, .int x2), (3, .int x3_1)]) F [1, 2, 3, 0] dX10_lettersEnd_3 rfl (by decide) rfl ?_
  refine a_join 24 (fun (t2 : Int32) => [(3, .int t2)]) (fun (t2 : Int32) => []) (fun (t2 : Int32) => [bAB400 y a0 v0]) hf (fun t2 hf => ?_) (fun t2 hf J2 => ?_)
  · try dsimp only at hf ⊢
    refine a_iloadn (pc := 24) (j := 0) F dX10_lettersEnd_24 rfl rfl ?_
    obtain rfl := Option.some.inj hf
    exact hret _ _ _ _ (Nat.zero_le _) (Nat.zero_le _) rfl dX10_lettersEnd_25
  · refine a_sub [0, 2, 3] rfl ?_
    refine a_loop 4 (fun (x3l : Int32) => [(0, .ref (a0 0)), (2, .int x2), (3, .int x3l)]) (fun (x3l : Int32) => [bAB400 y a0 v0]) (fun rc3 x3l ih3 hf => ?_) hf rfl rfl
    try dsimp only at hf ⊢
    refine a_iloadn (pc := 4) (j := 2) F dX10_lettersEnd_4 rfl rfl ?_
    refine a_iloadn (pc := 5) (j := 1) F dX10_lettersEnd_5 rfl rfl ?_
    refine a_icmp_ge (pc := 6) (tgt := 24) F dX10_lettersEnd_6 (by decide) (fun h => ?_) (fun h => ?_)
    · replace hf := it_pos h hf
      refine a_sub [2] rfl ?_
      obtain rfl := Option.some.inj hf
      exact J2
    · replace hf := it_neg h hf
      refine a_aloadn (pc := 9) (j := 0) F dX10_lettersEnd_9 rfl rfl ?_
      refine a_iloadn (pc := 10) (j := 2) F dX10_lettersEnd_10 rfl rfl ?_
      obtain ⟨h4, hf⟩ := gd_some hf
      refine a_bald (pc := 11) (kb := 0) (j := 0) F rfl rfl h4 dX10_lettersEnd_11 ?_
      obtain ⟨t5, ht5, hf⟩ := bd_some hf
      refine a_callS (pc := 12) (bs' := [bAB400 y a0 v0]) F [] (c_X10_isLetter l D y ek n  _ _ ht5) (va_cwS 1 F.1.2.2.2.2 (gS q3_110 q3_111 q1_2 q3_112) rfl rfl rfl (by decide +kernel) ⟨Nat.le_of_ble_eq_true rfl, Nat.le_of_ble_eq_true rfl⟩) (by decide) rfl rfl rfl rfl rfl rfl (Nat.le_of_ble_eq_true rfl) ⟨Nat.zero_le _, Nat.zero_le _⟩ dX10_lettersEnd_12 ?_
      refine a_if_eq (pc := 15) (tgt := 24) F dX10_lettersEnd_15 (by decide) (fun h => ?_) (fun h => ?_)
      · replace hf := it_pos h hf
        refine a_sub [2] rfl ?_
        obtain rfl := Option.some.inj hf
        exact J2
      · replace hf := it_neg h hf
        refine a_iinc (pc := 18) (j := 2) (v := (x3l + 1)) (lv' := [(0, .ref (a0 0)), (2, .int x2), (3, .int (x3l + 1))]) F [1, 2, 0] dX10_lettersEnd_18 rfl ki_1 (by decide) rfl ?_
        refine a_goto (pc := 21) (tgt := 4) F dX10_lettersEnd_21 (by decide) ?_
        exact ih3 (x3l + 1) hf

abbrev wX10_wordCode : List Cond := Cond.code yX10_wordCode cX10_wordCode 8 (some .int) :: WALL
def m_X10_wordCode (n : Nat) (v0 : St) (x1 : Int32) (x2 : Int32) : Option (Int32) :=
nm (x2 - x1) (fun x3_1 =>
lp (fun (rc2 : Int32 × Int32 × Int32 → Option (Int32)) (x2l : Int32 × Int32 × Int32) =>
(if (Int32.ofNat (sLen.getD 0 0)) ≤ x2l.2.2 then
some 258
else
(if ix x2l.2.2 (sLen.getD 0 0) then nm (s_ch 0 x2l.2.2) (fun x7_4 =>
jn (fun (t5 : Int32 × Int32) =>
rc2 (t5.1, t5.2, (x2l.2.2 + 1))) (fun (K5 : Int32 × Int32 → Option (Int32)) =>
(if x7_4 = 32 then
(if x2l.2.1 = x3_1 then
some x2l.1
else
K5 ((x2l.1 + 1), 0))
else
jn (fun (t6 : Unit) =>
K5 (x2l.1, (-1))) (fun (K6 : Unit → Option (Int32)) =>
(if x2l.2.1 < 0 then
K6 ()
else
(if x3_1 ≤ x2l.2.1 then
K6 ()
else
(if ix (x1 + x2l.2.1) 400 then (if (v0 0 ((x1 + x2l.2.1)).toNatClampNeg) = x7_4 then
K5 (x2l.1, (x2l.2.1 + 1))
else
K6 ()) else none))))))) else none))) n (300, 0, 0))
set_option maxHeartbeats 4000000 in
set_option maxRecDepth 100000 in
theorem c_X10_wordCode (l : Launch) (D : va_G) (y : Nat → ClassId) (ek : EK) (n : Nat) (a0 : Nat → Nat) (v0 : St) (x1 : Int32) (x2 : Int32) (res : Int32) (hf : m_X10_wordCode n v0 x1 x2 = some res) : CI l yX10_wordCode wX10_wordCode { frames := 4, cells := 0, slots := 0, locals := 85 } D y ek [.ref (a0 0), .int x1, .int x2] [bAB400 y a0 v0] (res) [bAB400 y a0 v0] 0 0 := by
  unfold m_X10_wordCode at hf
  refine ci_of (cc := cX10_wordCode) (maxL := 8) (by decide) rfl rfl (Nat.le_of_ble_eq_true rfl) ?_
  intro p e s m below meth c Q A F hret
  refine a_lv (lv' := [(0, .ref (a0 0)), (1, .int x1), (2, .int x2)]) rfl ?_
  refine a_iloadn (pc := 0) (j := 2) F dX10_wordCode_0 rfl rfl ?_
  refine a_iloadn (pc := 1) (j := 1) F dX10_wordCode_1 rfl rfl ?_
  refine a_isub (pc := 2) F dX10_wordCode_2 ?_
  obtain ⟨x3_1, ex3_1, hf⟩ := nm_some hf
  refine a_nmi ex3_1 ?_
  refine a_istoren (pc := 3) (lv' := [(0, .ref (a0 0)), (1, .int x1), (2, .int x2), (3, .int x3_1)]) F [1, 2, 3, 0] dX10_wordCode_3 rfl (by decide) rfl ?_
  refine a_sipush (pc := 4) F dX10_wordCode_4 ks_300 ?_
  refine a_istore (pc := 7) (lv' := [(0, .ref (a0 0)), (1, .int x1), (2, .int x2), (3, .int x3_1), (4, .int 300)]) F [1, 2, 3, 4, 0] dX10_wordCode_7 (by decide) rfl ?_
  refine a_iconst (pc := 9) F dX10_wordCode_9 kc_0 ?_
  refine a_istore (pc := 10) (lv' := [(0, .ref (a0 0)), (1, .int x1), (2, .int x2), (3, .int x3_1), (4, .int 300), (5, .int 0)]) F [1, 2, 3, 4, 5, 0] dX10_wordCode_10 (by decide) rfl ?_
  refine a_iconst (pc := 12) F dX10_wordCode_12 kc_0 ?_
  refine a_istore (pc := 13) (lv' := [(0, .ref (a0 0)), (1, .int x1), (2, .int x2), (3, .int x3_1), (4, .int 300), (5, .int 0), (6, .int 0)]) F [1, 2, 3, 4, 5, 6, 0] dX10_wordCode_13 (by decide) rfl ?_
  refine a_sub [0, 1, 3, 4, 5, 6] rfl ?_
  refine a_loop 15 (fun (x2l : Int32 × Int32 × Int32) => [(0, .ref (a0 0)), (1, .int x1), (3, .int x3_1), (4, .int x2l.1), (5, .int x2l.2.1), (6, .int x2l.2.2)]) (fun (x2l : Int32 × Int32 × Int32) => [bAB400 y a0 v0]) (fun rc2 x2l ih2 hf => ?_) hf rfl rfl
  try dsimp only at hf ⊢
  refine a_iload (pc := 15) (j := 5) F dX10_wordCode_15 rfl ?_
  refine a_ldcS (pc := 17) (tx := "plank purse guests thing snow step fall thieves fee worth in age rent lure if or and not up level house height load aged week ") F 0 rfl dX10_wordCode_17 ?_
  refine a_callStr (pc := 19) (i := 0) F (by decide) (c_J0len l D y ek 0 (by decide)) (cwV 0 F.1.2.2.2.2 (gV q3_120 q3_121 q3_122 q1_12 q3_123) rfl rfl rfl (by decide +kernel) ⟨Nat.le_of_ble_eq_true rfl, Nat.le_of_ble_eq_true rfl⟩) rfl rfl (Nat.le_of_ble_eq_true rfl) ⟨Nat.zero_le _, Nat.zero_le _⟩ dX10_wordCode_19 ?_
  refine a_icmp_ge (pc := 22) (tgt := 96) F dX10_wordCode_22 (by decide) (fun h => ?_) (fun h => ?_)
  · replace hf := it_pos h hf
    refine a_sipush (pc := 96) F dX10_wordCode_96 ks_258 ?_
    obtain rfl := Option.some.inj hf
    exact hret _ _ _ _ (Nat.zero_le _) (Nat.zero_le _) rfl dX10_wordCode_99
  · replace hf := it_neg h hf
    refine a_ldcS (pc := 25) (tx := "plank purse guests thing snow step fall thieves fee worth in age rent lure if or and not up level house height load aged week ") F 0 rfl dX10_wordCode_25 ?_
    refine a_iload (pc := 27) (j := 5) F dX10_wordCode_27 rfl ?_
    obtain ⟨h3, hf⟩ := gd_some hf
    refine a_callStr (pc := 29) (i := 0) F (by decide) (c_J0ch l D y ek 0 x2l.2.2 (by decide) h3) (cwV 1 F.1.2.2.2.2 (gV q3_130 q3_131 q3_132 q1_12 q3_133) rfl rfl rfl (by decide +kernel) ⟨Nat.le_of_ble_eq_true rfl, Nat.le_of_ble_eq_true rfl⟩) rfl rfl (Nat.le_of_ble_eq_true rfl) ⟨Nat.zero_le _, Nat.zero_le _⟩ dX10_wordCode_29 ?_
    obtain ⟨x7_4, ex7_4, hf⟩ := nm_some hf
    refine a_nmi ex7_4 ?_
    refine a_istore (pc := 32) (lv' := [(0, .ref (a0 0)), (1, .int x1), (3, .int x3_1), (4, .int x2l.1), (5, .int x2l.2.1), (6, .int x2l.2.2), (7, .int x7_4)]) F [1, 2, 3, 4, 5, 6, 0] dX10_wordCode_32 (by decide) rfl ?_
    refine a_iload (pc := 34) (j := 6) F dX10_wordCode_34 rfl ?_
    refine a_bipush (pc := 36) F dX10_wordCode_36 kb_32 ?_
    refine a_jn 90 (fun (t5 : Int32 × Int32) => [(0, .ref (a0 0)), (1, .int x1), (3, .int x3_1), (4, .int t5.1), (5, .int t5.2), (6, .int x2l.2.2)]) (fun (t5 : Int32 × Int32) => []) (fun (t5 : Int32 × Int32) => [bAB400 y a0 v0]) hf (fun t5 hf => ?_) (fun K5 hK5 hf => ?_)
    · try dsimp only at hf ⊢
      refine a_iinc (pc := 90) (j := 5) (v := (x2l.2.2 + 1)) (lv' := [(0, .ref (a0 0)), (1, .int x1), (3, .int x3_1), (4, .int t5.1), (5, .int t5.2), (6, .int (x2l.2.2 + 1))]) F [1, 2, 3, 4, 5, 0] dX10_wordCode_90 rfl ki_1 (by decide) rfl ?_
      refine a_goto (pc := 93) (tgt := 15) F dX10_wordCode_93 (by decide) ?_
      exact ih2 (t5.1, t5.2, (x2l.2.2 + 1)) hf
    · try dsimp only at hf
      refine a_icmp_ne (pc := 38) (tgt := 59) F dX10_wordCode_38 (by decide) (fun h => ?_) (fun h => ?_)
      · replace hf := it_neg h hf
        refine a_iload (pc := 59) (j := 4) F dX10_wordCode_59 rfl ?_
        refine a_jn 87 (fun (t6 : Unit) => [(0, .ref (a0 0)), (1, .int x1), (3, .int x3_1), (4, .int x2l.1), (6, .int x2l.2.2)]) (fun (t6 : Unit) => []) (fun (t6 : Unit) => [bAB400 y a0 v0]) hf (fun t6 hf => ?_) (fun K6 hK6 hf => ?_)
        · try dsimp only at hf ⊢
          refine a_iconst (pc := 87) F dX10_wordCode_87 kc_m1 ?_
          refine a_istore (pc := 88) (lv' := [(0, .ref (a0 0)), (1, .int x1), (3, .int x3_1), (4, .int x2l.1), (5, .int (-1)), (6, .int x2l.2.2)]) F [1, 2, 3, 4, 0, 5] dX10_wordCode_88 (by decide) rfl ?_
          exact hK5 (x2l.1, (-1)) hf
        · try dsimp only at hf
          refine a_if_lt (pc := 61) (tgt := 87) F dX10_wordCode_61 (by decide) (fun h => ?_) (fun h => ?_)
          · replace hf := it_pos h hf
            refine a_sub [0, 1, 2, 3, 5] rfl ?_
            exact hK6 () hf
          · replace hf := it_neg h hf
            refine a_iload (pc := 64) (j := 4) F dX10_wordCode_64 rfl ?_
            refine a_iloadn (pc := 66) (j := 2) F dX10_wordCode_66 rfl rfl ?_
            refine a_icmp_ge (pc := 67) (tgt := 87) F dX10_wordCode_67 (by decide) (fun h => ?_) (fun h => ?_)
            · replace hf := it_pos h hf
              refine a_sub [0, 1, 2, 3, 5] rfl ?_
              exact hK6 () hf
            · replace hf := it_neg h hf
              refine a_aloadn (pc := 70) (j := 0) F dX10_wordCode_70 rfl rfl ?_
              refine a_iloadn (pc := 71) (j := 1) F dX10_wordCode_71 rfl rfl ?_
              refine a_iload (pc := 72) (j := 4) F dX10_wordCode_72 rfl ?_
              refine a_iadd (pc := 74) F dX10_wordCode_74 ?_
              obtain ⟨h7, hf⟩ := gd_some hf
              refine a_bald (pc := 75) (kb := 0) (j := 0) F rfl rfl h7 dX10_wordCode_75 ?_
              refine a_iload (pc := 76) (j := 6) F dX10_wordCode_76 rfl ?_
              refine a_icmp_ne (pc := 78) (tgt := 87) F dX10_wordCode_78 (by decide) (fun h => ?_) (fun h => ?_)
              · replace hf := it_neg h hf
                refine a_sub [0, 1, 2, 3, 5] rfl ?_
                exact hK6 () hf
              · replace hf := it_pos h hf
                refine a_iinc (pc := 81) (j := 4) (v := (x2l.2.1 + 1)) (lv' := [(0, .ref (a0 0)), (1, .int x1), (3, .int x3_1), (4, .int x2l.1), (5, .int (x2l.2.1 + 1)), (6, .int x2l.2.2), (7, .int x7_4)]) F [1, 2, 3, 4, 0, 5, 6] dX10_wordCode_81 rfl ki_1 (by decide) rfl ?_
                refine a_goto (pc := 84) (tgt := 90) F dX10_wordCode_84 (by decide) ?_
                refine a_sub [0, 1, 2, 3, 4, 5] rfl ?_
                exact hK5 (x2l.1, (x2l.2.1 + 1)) hf
      · replace hf := it_pos h hf
        refine a_iload (pc := 41) (j := 4) F dX10_wordCode_41 rfl ?_
        refine a_iloadn (pc := 43) (j := 2) F dX10_wordCode_43 rfl rfl ?_
        refine a_icmp_ne (pc := 44) (tgt := 50) F dX10_wordCode_44 (by decide) (fun h => ?_) (fun h => ?_)
        · replace hf := it_neg h hf
          refine a_iinc (pc := 50) (j := 3) (v := (x2l.1 + 1)) (lv' := [(0, .ref (a0 0)), (1, .int x1), (3, .int x3_1), (4, .int (x2l.1 + 1)), (5, .int x2l.2.1), (6, .int x2l.2.2), (7, .int x7_4)]) F [1, 2, 3, 0, 4, 5, 6] dX10_wordCode_50 rfl ki_1 (by decide) rfl ?_
          refine a_iconst (pc := 53) F dX10_wordCode_53 kc_0 ?_
          refine a_istore (pc := 54) (lv' := [(0, .ref (a0 0)), (1, .int x1), (3, .int x3_1), (4, .int (x2l.1 + 1)), (5, .int 0), (6, .int x2l.2.2), (7, .int x7_4)]) F [1, 2, 3, 4, 0, 5, 6] dX10_wordCode_54 (by decide) rfl ?_
          refine a_goto (pc := 56) (tgt := 90) F dX10_wordCode_56 (by decide) ?_
          refine a_sub [0, 1, 2, 3, 4, 5] rfl ?_
          exact hK5 ((x2l.1 + 1), 0) hf
        · replace hf := it_pos h hf
          refine a_iload (pc := 47) (j := 3) F dX10_wordCode_47 rfl ?_
          obtain rfl := Option.some.inj hf
          exact hret _ _ _ _ (Nat.zero_le _) (Nat.zero_le _) rfl dX10_wordCode_49

abbrev wX10_add : List Cond := Cond.code yX10_add cX10_add 4 none :: WALL
def m_X10_add (n : Nat) (v0 : St) (x1 : Int32) (x2 : Int32) (x3 : Int32) : Option (St) :=
(if 401 ≤ (v0 3 0) then
some v0
else
(if ix (v0 3 0) 401 then nm (su v0 0 ((v0 3 0)).toNatClampNeg x1) (fun u2 =>
(if ix (u2 3 0) 401 then nm (su u2 1 ((u2 3 0)).toNatClampNeg x2) (fun u4 =>
(if ix (u4 3 0) 401 then nm (su u4 2 ((u4 3 0)).toNatClampNeg x3) (fun u6 =>
nm (su u6 3 0 ((u6 3 0) + 1)) (fun u7 =>
some u7)) else none)) else none)) else none))
set_option maxHeartbeats 4000000 in
set_option maxRecDepth 100000 in
theorem c_X10_add (l : Launch) (D : va_G) (y : Nat → ClassId) (ek : EK) (n : Nat) (a0 : Nat → Nat) (v0 : St) (x1 : Int32) (x2 : Int32) (x3 : Int32) (res : St) (hf : m_X10_add n v0 x1 x2 x3 = some res) : CV l yX10_add wX10_add { frames := 0, cells := 0, slots := 0, locals := 0 } D y ek [.ref (a0 0), .int x1, .int x2, .int x3] [bX10 y a0 v0] [bX10 y a0 res] 0 0 := by
  unfold m_X10_add at hf
  refine cv_of (cc := cX10_add) (maxL := 4) (by decide) rfl rfl (Nat.le_of_ble_eq_true rfl) ?_
  intro p e s m below meth c Q A F hret
  refine a_lv (lv' := [(0, .ref (a0 0)), (1, .int x1), (2, .int x2), (3, .int x3)]) rfl ?_
  refine a_aloadn (pc := 0) (j := 0) F dX10_add_0 rfl rfl ?_
  refine a_get (pc := 1) (kb := 0) (j := 0) (f := 3) F iW_X10 rfl rfl rfl (by decide) (tl q1_47) (fun _ h => h) rfl dX10_add_1 ?_
  refine a_aloadn (pc := 4) (j := 0) F dX10_add_4 rfl rfl ?_
  refine a_get (pc := 5) (kb := 0) (j := 0) (f := 0) F iW_X10 rfl rfl rfl (by decide) (tl q1_43) (fun _ h => h) rfl dX10_add_5 ?_
  refine a_alen (pc := 8) (kb := 0) (j := 1) (t0 := 0) (v := 401) F rfl rfl rfl rfl dX10_add_8 ?_
  refine a_icmp_ge (pc := 9) (tgt := 52) F dX10_add_9 (by decide) (fun h => ?_) (fun h => ?_)
  · replace hf := it_pos h hf
    obtain rfl := Option.some.inj hf
    exact hret _ _ _ _ (Nat.zero_le _) (Nat.zero_le _) dX10_add_52
  · replace hf := it_neg h hf
    refine a_aloadn (pc := 12) (j := 0) F dX10_add_12 rfl rfl ?_
    refine a_get (pc := 13) (kb := 0) (j := 0) (f := 0) F iW_X10 rfl rfl rfl (by decide) (tl q1_43) (fun _ h => h) rfl dX10_add_13 ?_
    refine a_aloadn (pc := 16) (j := 0) F dX10_add_16 rfl rfl ?_
    refine a_get (pc := 17) (kb := 0) (j := 0) (f := 3) F iW_X10 rfl rfl rfl (by decide) (tl q1_47) (fun _ h => h) rfl dX10_add_17 ?_
    refine a_iloadn (pc := 20) (j := 1) F dX10_add_20 rfl rfl ?_
    obtain ⟨h1, hf⟩ := gd_some hf
    obtain ⟨u2, eu2, hf⟩ := nm_some hf
    refine a_iast (pc := 21) (kb := 0) (j := 1) (bs' := [bX10 y a0 u2]) F rfl rfl h1 (by rw [eu2]; rfl) dX10_add_21 ?_
    refine a_aloadn (pc := 22) (j := 0) F dX10_add_22 rfl rfl ?_
    refine a_get (pc := 23) (kb := 0) (j := 0) (f := 1) F iW_X10 rfl rfl rfl (by decide) (tl q1_45) (fun _ h => h) rfl dX10_add_23 ?_
    refine a_aloadn (pc := 26) (j := 0) F dX10_add_26 rfl rfl ?_
    refine a_get (pc := 27) (kb := 0) (j := 0) (f := 3) F iW_X10 rfl rfl rfl (by decide) (tl q1_47) (fun _ h => h) rfl dX10_add_27 ?_
    refine a_iloadn (pc := 30) (j := 2) F dX10_add_30 rfl rfl ?_
    obtain ⟨h3, hf⟩ := gd_some hf
    obtain ⟨u4, eu4, hf⟩ := nm_some hf
    refine a_iast (pc := 31) (kb := 0) (j := 2) (bs' := [bX10 y a0 u4]) F rfl rfl h3 (by rw [eu4]; rfl) dX10_add_31 ?_
    refine a_aloadn (pc := 32) (j := 0) F dX10_add_32 rfl rfl ?_
    refine a_get (pc := 33) (kb := 0) (j := 0) (f := 2) F iW_X10 rfl rfl rfl (by decide) (tl q1_46) (fun _ h => h) rfl dX10_add_33 ?_
    refine a_aloadn (pc := 36) (j := 0) F dX10_add_36 rfl rfl ?_
    refine a_get (pc := 37) (kb := 0) (j := 0) (f := 3) F iW_X10 rfl rfl rfl (by decide) (tl q1_47) (fun _ h => h) rfl dX10_add_37 ?_
    refine a_iloadn (pc := 40) (j := 3) F dX10_add_40 rfl rfl ?_
    obtain ⟨h5, hf⟩ := gd_some hf
    obtain ⟨u6, eu6, hf⟩ := nm_some hf
    refine a_iast (pc := 41) (kb := 0) (j := 3) (bs' := [bX10 y a0 u6]) F rfl rfl h5 (by rw [eu6]; rfl) dX10_add_41 ?_
    refine a_aloadn (pc := 42) (j := 0) F dX10_add_42 rfl rfl ?_
    refine a_dup (pc := 43) F dX10_add_43 rfl ?_
    refine a_get (pc := 44) (kb := 0) (j := 0) (f := 3) F iW_X10 rfl rfl rfl (by decide) (tl q1_47) (fun _ h => h) rfl dX10_add_44 ?_
    refine a_iconst (pc := 47) F dX10_add_47 kc_1 ?_
    refine a_iadd (pc := 48) F dX10_add_48 ?_
    obtain ⟨u7, eu7, hf⟩ := nm_some hf
    refine a_put (pc := 49) (kb := 0) (j := 0) (f := 3) (ty := .int) (bs' := [bX10 y a0 u7]) F iW_X10 rfl rfl rfl (by decide) (tl q1_47) (fun _ h => h) tyX10 tyX10_ok nmX10 rfl rfl rfl rfl (Nat.le_of_ble_eq_true rfl) (by rw [eu7]; rfl) dX10_add_49 ?_
    obtain rfl := Option.some.inj hf
    exact hret _ _ _ _ (Nat.zero_le _) (Nat.zero_le _) dX10_add_52

abbrev wX10_isDigit : List Cond := Cond.code yX10_isDigit cX10_isDigit 1 (some .boolean) :: WALL
def m_X10_isDigit (n : Nat) (x0 : Int32) : Option (Int32) :=
jn (fun (t1 : Unit) =>
some 0) (fun (K1 : Unit → Option (Int32)) =>
(if x0 < 48 then
K1 ()
else
(if 57 < x0 then
K1 ()
else
some 1)))
set_option maxHeartbeats 4000000 in
set_option maxRecDepth 100000 in
theorem c_X10_isDigit (l : Launch) (D : va_G) (y : Nat → ClassId) (ek : EK) (n : Nat) (x0 : Int32) (res : Int32) (hf : m_X10_isDigit n x0 = some res) : CI l yX10_isDigit wX10_isDigit { frames := 0, cells := 0, slots := 0, locals := 0 } D y ek [.int x0] [] (res) [] 0 0 := by
  unfold m_X10_isDigit at hf
  refine ci_of (cc := cX10_isDigit) (maxL := 1) (by decide) rfl rfl (Nat.le_of_ble_eq_true rfl) ?_
  intro p e s m below meth c Q A F hret
  refine a_lv (lv' := [(0, .int x0)]) rfl ?_
  refine a_iloadn (pc := 0) (j := 0) F dX10_isDigit_0 rfl rfl ?_
  refine a_bipush (pc := 1) F dX10_isDigit_1 kb_48 ?_
  refine a_jn 16 (fun (t1 : Unit) => []) (fun (t1 : Unit) => []) (fun (t1 : Unit) => []) hf (fun t1 hf => ?_) (fun K1 hK1 hf => ?_)
  · try dsimp only at hf ⊢
    refine a_iconst (pc := 16) F dX10_isDigit_16 kc_0 ?_
    obtain rfl := Option.some.inj hf
    exact hret _ _ _ _ (Nat.zero_le _) (Nat.zero_le _) (z_nar (Or.inl rfl)) dX10_isDigit_17
  · try dsimp only at hf
    refine a_icmp_lt (pc := 3) (tgt := 16) F dX10_isDigit_3 (by decide) (fun h => ?_) (fun h => ?_)
    · replace hf := it_pos h hf
      refine a_sub [] rfl ?_
      exact hK1 () hf
    · replace hf := it_neg h hf
      refine a_iloadn (pc := 6) (j := 0) F dX10_isDigit_6 rfl rfl ?_
      refine a_bipush (pc := 7) F dX10_isDigit_7 kb_57 ?_
      refine a_icmp_gt (pc := 9) (tgt := 16) F dX10_isDigit_9 (by decide) (fun h => ?_) (fun h => ?_)
      · replace hf := it_pos h hf
        refine a_sub [] rfl ?_
        exact hK1 () hf
      · replace hf := it_neg h hf
        refine a_iconst (pc := 12) F dX10_isDigit_12 kc_1 ?_
        refine a_goto (pc := 13) (tgt := 17) F dX10_isDigit_13 (by decide) ?_
        obtain rfl := Option.some.inj hf
        exact hret _ _ _ _ (Nat.zero_le _) (Nat.zero_le _) (z_nar (Or.inr rfl)) dX10_isDigit_17

abbrev wX10_digitsEnd : List Cond := Cond.code yX10_digitsEnd cX10_digitsEnd 4 (some .int) :: WALL
def m_X10_digitsEnd (n : Nat) (v0 : St) (x1 : Int32) (x2 : Int32) : Option (Int32) :=
nm (x1 + 1) (fun x3_1 =>
bd (lp (fun (rc3 : Int32 → Option (Int32)) (x3l : Int32) =>
(if x2 ≤ x3l then
some x3l
else
(if ix x3l 400 then bd (m_X10_isDigit n (v0 0 (x3l).toNatClampNeg)) (fun t5 =>
(if t5 = 0 then
some x3l
else
rc3 (x3l + 1))) else none))) n x3_1) (fun (t2 : Int32) =>
some t2))
set_option maxHeartbeats 4000000 in
set_option maxRecDepth 100000 in
theorem c_X10_digitsEnd (l : Launch) (D : va_G) (y : Nat → ClassId) (ek : EK) (n : Nat) (a0 : Nat → Nat) (v0 : St) (x1 : Int32) (x2 : Int32) (res : Int32) (hf : m_X10_digitsEnd n v0 x1 x2 = some res) : CI l yX10_digitsEnd wX10_digitsEnd { frames := 1, cells := 0, slots := 0, locals := 20 } D y ek [.ref (a0 0), .int x1, .int x2] [bAB400 y a0 v0] (res) [bAB400 y a0 v0] 0 0 := by
  unfold m_X10_digitsEnd at hf
  refine ci_of (cc := cX10_digitsEnd) (maxL := 4) (by decide) rfl rfl (Nat.le_of_ble_eq_true rfl) ?_
  intro p e s m below meth c Q A F hret
  refine a_lv (lv' := [(0, .ref (a0 0)), (1, .int x1), (2, .int x2)]) rfl ?_
  refine a_iloadn (pc := 0) (j := 1) F dX10_digitsEnd_0 rfl rfl ?_
  refine a_iconst (pc := 1) F dX10_digitsEnd_1 kc_1 ?_
  refine a_iadd (pc := 2) F dX10_digitsEnd_2 ?_
  obtain ⟨x3_1, ex3_1, hf⟩ := nm_some hf
  refine a_nmi ex3_1 ?_
  refine a_istoren (pc := 3) (lv' := [(0, .ref (a0 0)), (1, .int x1), (2, .int x2), (3, .int x3_1)]) F [1, 2, 3, 0] dX10_digitsEnd_3 rfl (by decide) rfl ?_
  refine a_join 24 (fun (t2 : Int32) => [(3, .int t2)]) (fun (t2 : Int32) => []) (fun (t2 : Int32) => [bAB400 y a0 v0]) hf (fun t2 hf => ?_) (fun t2 hf J2 => ?_)
  · try dsimp only at hf ⊢
    refine a_iloadn (pc := 24) (j := 0) F dX10_digitsEnd_24 rfl rfl ?_
    obtain rfl := Option.some.inj hf
    exact hret _ _ _ _ (Nat.zero_le _) (Nat.zero_le _) rfl dX10_digitsEnd_25
  · refine a_sub [0, 2, 3] rfl ?_
    refine a_loop 4 (fun (x3l : Int32) => [(0, .ref (a0 0)), (2, .int x2), (3, .int x3l)]) (fun (x3l : Int32) => [bAB400 y a0 v0]) (fun rc3 x3l ih3 hf => ?_) hf rfl rfl
    try dsimp only at hf ⊢
    refine a_iloadn (pc := 4) (j := 2) F dX10_digitsEnd_4 rfl rfl ?_
    refine a_iloadn (pc := 5) (j := 1) F dX10_digitsEnd_5 rfl rfl ?_
    refine a_icmp_ge (pc := 6) (tgt := 24) F dX10_digitsEnd_6 (by decide) (fun h => ?_) (fun h => ?_)
    · replace hf := it_pos h hf
      refine a_sub [2] rfl ?_
      obtain rfl := Option.some.inj hf
      exact J2
    · replace hf := it_neg h hf
      refine a_aloadn (pc := 9) (j := 0) F dX10_digitsEnd_9 rfl rfl ?_
      refine a_iloadn (pc := 10) (j := 2) F dX10_digitsEnd_10 rfl rfl ?_
      obtain ⟨h4, hf⟩ := gd_some hf
      refine a_bald (pc := 11) (kb := 0) (j := 0) F rfl rfl h4 dX10_digitsEnd_11 ?_
      obtain ⟨t5, ht5, hf⟩ := bd_some hf
      refine a_callS (pc := 12) (bs' := [bAB400 y a0 v0]) F [] (c_X10_isDigit l D y ek n  _ _ ht5) (va_cwS 1 F.1.2.2.2.2 (gS q3_172 q3_173 q1_2 q3_174) rfl rfl rfl (by decide +kernel) ⟨Nat.le_of_ble_eq_true rfl, Nat.le_of_ble_eq_true rfl⟩) (by decide) rfl rfl rfl rfl rfl rfl (Nat.le_of_ble_eq_true rfl) ⟨Nat.zero_le _, Nat.zero_le _⟩ dX10_digitsEnd_12 ?_
      refine a_if_eq (pc := 15) (tgt := 24) F dX10_digitsEnd_15 (by decide) (fun h => ?_) (fun h => ?_)
      · replace hf := it_pos h hf
        refine a_sub [2] rfl ?_
        obtain rfl := Option.some.inj hf
        exact J2
      · replace hf := it_neg h hf
        refine a_iinc (pc := 18) (j := 2) (v := (x3l + 1)) (lv' := [(0, .ref (a0 0)), (2, .int x2), (3, .int (x3l + 1))]) F [1, 2, 0] dX10_digitsEnd_18 rfl ki_1 (by decide) rfl ?_
        refine a_goto (pc := 21) (tgt := 4) F dX10_digitsEnd_21 (by decide) ?_
        exact ih3 (x3l + 1) hf

abbrev wX10_valueOf : List Cond := Cond.code yX10_valueOf cX10_valueOf 5 (some .int) :: WALL
def m_X10_valueOf (n : Nat) (v0 : St) (x1 : Int32) (x2 : Int32) : Option (Int32) :=
lp (fun (rc1 : Int32 × Int32 → Option (Int32)) (x1l : Int32 × Int32) =>
(if x2 ≤ x1l.2 then
some x1l.1
else
(if ix x1l.2 400 then nm (((10 * x1l.1) + (v0 0 (x1l.2).toNatClampNeg)) - 48) (fun x3_3 =>
rc1 (x3_3, (x1l.2 + 1))) else none))) n (0, x1)
set_option maxHeartbeats 4000000 in
set_option maxRecDepth 100000 in
theorem c_X10_valueOf (l : Launch) (D : va_G) (y : Nat → ClassId) (ek : EK) (n : Nat) (a0 : Nat → Nat) (v0 : St) (x1 : Int32) (x2 : Int32) (res : Int32) (hf : m_X10_valueOf n v0 x1 x2 = some res) : CI l yX10_valueOf wX10_valueOf { frames := 0, cells := 0, slots := 0, locals := 0 } D y ek [.ref (a0 0), .int x1, .int x2] [bAB400 y a0 v0] (res) [bAB400 y a0 v0] 0 0 := by
  unfold m_X10_valueOf at hf
  refine ci_of (cc := cX10_valueOf) (maxL := 5) (by decide) rfl rfl (Nat.le_of_ble_eq_true rfl) ?_
  intro p e s m below meth c Q A F hret
  refine a_lv (lv' := [(0, .ref (a0 0)), (1, .int x1), (2, .int x2)]) rfl ?_
  refine a_iconst (pc := 0) F dX10_valueOf_0 kc_0 ?_
  refine a_istoren (pc := 1) (lv' := [(0, .ref (a0 0)), (1, .int x1), (2, .int x2), (3, .int 0)]) F [1, 2, 3, 0] dX10_valueOf_1 rfl (by decide) rfl ?_
  refine a_iloadn (pc := 2) (j := 1) F dX10_valueOf_2 rfl rfl ?_
  refine a_istore (pc := 3) (lv' := [(0, .ref (a0 0)), (1, .int x1), (2, .int x2), (3, .int 0), (4, .int x1)]) F [1, 2, 3, 4, 0] dX10_valueOf_3 (by decide) rfl ?_
  refine a_sub [0, 2, 3, 4] rfl ?_
  refine a_loop 5 (fun (x1l : Int32 × Int32) => [(0, .ref (a0 0)), (2, .int x2), (3, .int x1l.1), (4, .int x1l.2)]) (fun (x1l : Int32 × Int32) => [bAB400 y a0 v0]) (fun rc1 x1l ih1 hf => ?_) hf rfl rfl
  try dsimp only at hf ⊢
  refine a_iload (pc := 5) (j := 3) F dX10_valueOf_5 rfl ?_
  refine a_iloadn (pc := 7) (j := 1) F dX10_valueOf_7 rfl rfl ?_
  refine a_icmp_ge (pc := 8) (tgt := 30) F dX10_valueOf_8 (by decide) (fun h => ?_) (fun h => ?_)
  · replace hf := it_pos h hf
    refine a_iloadn (pc := 30) (j := 2) F dX10_valueOf_30 rfl rfl ?_
    obtain rfl := Option.some.inj hf
    exact hret _ _ _ _ (Nat.zero_le _) (Nat.zero_le _) rfl dX10_valueOf_31
  · replace hf := it_neg h hf
    refine a_bipush (pc := 11) F dX10_valueOf_11 kb_10 ?_
    refine a_iloadn (pc := 13) (j := 2) F dX10_valueOf_13 rfl rfl ?_
    refine a_imul (pc := 14) F dX10_valueOf_14 ?_
    refine a_aloadn (pc := 15) (j := 0) F dX10_valueOf_15 rfl rfl ?_
    refine a_iload (pc := 16) (j := 3) F dX10_valueOf_16 rfl ?_
    obtain ⟨h2, hf⟩ := gd_some hf
    refine a_bald (pc := 18) (kb := 0) (j := 0) F rfl rfl h2 dX10_valueOf_18 ?_
    refine a_iadd (pc := 19) F dX10_valueOf_19 ?_
    refine a_bipush (pc := 20) F dX10_valueOf_20 kb_48 ?_
    refine a_isub (pc := 22) F dX10_valueOf_22 ?_
    obtain ⟨x3_3, ex3_3, hf⟩ := nm_some hf
    refine a_nmi ex3_3 ?_
    refine a_istoren (pc := 23) (lv' := [(0, .ref (a0 0)), (2, .int x2), (3, .int x3_3), (4, .int x1l.2)]) F [1, 2, 0, 3] dX10_valueOf_23 rfl (by decide) rfl ?_
    refine a_iinc (pc := 24) (j := 3) (v := (x1l.2 + 1)) (lv' := [(0, .ref (a0 0)), (2, .int x2), (3, .int x3_3), (4, .int (x1l.2 + 1))]) F [1, 2, 3, 0] dX10_valueOf_24 rfl ki_1 (by decide) rfl ?_
    refine a_goto (pc := 27) (tgt := 5) F dX10_valueOf_27 (by decide) ?_
    exact ih1 (x3_3, (x1l.2 + 1)) hf

abbrev wX10_split : List Cond := Cond.code yX10_split cX10_split 7 none :: WALL
def m_X10_split (n : Nat) (v0 : St) (v1 : St) (x2 : Int32) : Option (St) :=
nm (su v0 3 0 0) (fun u1 =>
bd (lp (fun (rc4 : Int32 × St → Option (St)) (x4l : Int32 × St) =>
(if x2 ≤ x4l.1 then
some x4l.2
else
(if ix x4l.1 400 then nm ((v1 0 (x4l.1).toNatClampNeg) &&& 255) (fun x4_6 =>
nm (x4l.1 + 1) (fun x5_7 =>
bd (m_X10_isLetter n x4_6) (fun t8 =>
bd ((if t8 = 0 then
bd (m_X10_isDigit n x4_6) (fun t10 =>
(if t10 = 0 then
(if x4_6 = 32 then
some (x5_7, x4l.2)
else
bd (m_X10_add n x4l.2 x4_6 0 x4l.1) (fun t11 =>
some (x5_7, t11)))
else
bd (m_X10_digitsEnd n v1 x4l.1 x2) (fun t12 =>
bd ((if (t12 - x4l.1) ≤ 3 then
some 0
else
some 1)) (fun (t13 : Int32) =>
bd ((if t13 = 0 then
some 256
else
some 257)) (fun (t14 : Int32) =>
bd ((if t13 = 0 then
bd (m_X10_valueOf n v1 x4l.1 t12) (fun t17 =>
some t17)
else
some 0)) (fun (t15 : Int32) =>
bd (m_X10_add n x4l.2 t14 t15 x4l.1) (fun t16 =>
some (t12, t16))))))))
else
bd (m_X10_lettersEnd n v1 x4l.1 x2) (fun t18 =>
bd (m_X10_wordCode n v1 x4l.1 t18) (fun t19 =>
bd (m_X10_add n x4l.2 t19 0 x4l.1) (fun t20 =>
some (t18, t20)))))) (fun (t9 : Int32 × St) =>
rc4 (t9.1, t9.2))))) else none))) n (0, u1)) (fun (t2 : St) =>
bd (m_X10_add n t2 259 0 x2) (fun t3 =>
some t3)))
set_option maxHeartbeats 4000000 in
set_option maxRecDepth 100000 in
theorem c_X10_split (l : Launch) (D : va_G) (y : Nat → ClassId) (ek : EK) (n : Nat) (a0 : Nat → Nat) (a1 : Nat → Nat) (v0 : St) (v1 : St) (x2 : Int32) (res : St) (hf : m_X10_split n v0 v1 x2 = some res) : CV l yX10_split wX10_split { frames := 5, cells := 0, slots := 0, locals := 112 } D y ek [.ref (a0 0), .ref (a1 0), .int x2] [bX10 y a0 v0, bAB400 y a1 v1] [bX10 y a0 res, bAB400 y a1 v1] 0 0 := by
  unfold m_X10_split at hf
  refine cv_of (cc := cX10_split) (maxL := 7) (by decide) rfl rfl (Nat.le_of_ble_eq_true rfl) ?_
  intro p e s m below meth c Q A F hret
  refine a_lv (lv' := [(0, .ref (a0 0)), (1, .ref (a1 0)), (2, .int x2)]) rfl ?_
  refine a_aloadn (pc := 0) (j := 0) F dX10_split_0 rfl rfl ?_
  refine a_iconst (pc := 1) F dX10_split_1 kc_0 ?_
  obtain ⟨u1, eu1, hf⟩ := nm_some hf
  refine a_put (pc := 2) (kb := 0) (j := 0) (f := 3) (ty := .int) (bs' := [bX10 y a0 u1, bAB400 y a1 v1]) F iW_X10 rfl rfl rfl (by decide) (tl q1_47) (fun _ h => h) tyX10 tyX10_ok nmX10 rfl rfl rfl rfl (Nat.le_of_ble_eq_true rfl) (by rw [eu1]; rfl) dX10_split_2 ?_
  refine a_iconst (pc := 5) F dX10_split_5 kc_0 ?_
  refine a_istoren (pc := 6) (lv' := [(0, .ref (a0 0)), (1, .ref (a1 0)), (2, .int x2), (3, .int 0)]) F [1, 2, 3, 0] dX10_split_6 rfl (by decide) rfl ?_
  refine a_join 148 (fun (t2 : St) => [(0, .ref (a0 0)), (2, .int x2)]) (fun (t2 : St) => []) (fun (t2 : St) => [bX10 y a0 t2, bAB400 y a1 v1]) hf (fun t2 hf => ?_) (fun t2 hf J2 => ?_)
  · try dsimp only at hf ⊢
    refine a_aloadn (pc := 148) (j := 0) F dX10_split_148 rfl rfl ?_
    refine a_sipush (pc := 149) F dX10_split_149 ks_259 ?_
    refine a_iconst (pc := 152) F dX10_split_152 kc_0 ?_
    refine a_iloadn (pc := 153) (j := 1) F dX10_split_153 rfl rfl ?_
    obtain ⟨t3, ht3, hf⟩ := bd_some hf
    refine a_callVv (pc := 154) (bs' := [bX10 y a0 t3, bAB400 y a1 v1]) (kb := 0) (j := 0) F [0] (c_X10_add l D y ek n a0 _ _ _ _ _ ht3) (cwV 3 F.1.2.2.2.2 (gV q3_168 q3_170 qs_5 q1_2 q3_171) rfl rfl rfl (by decide +kernel) ⟨Nat.le_of_ble_eq_true rfl, Nat.le_of_ble_eq_true rfl⟩) rfl rfl rfl rfl (by decide) rfl rfl rfl rfl rfl rfl (Nat.le_of_ble_eq_true rfl) ⟨Nat.zero_le _, Nat.zero_le _⟩ dX10_split_154 ?_
    obtain rfl := Option.some.inj hf
    exact hret _ _ _ _ (Nat.zero_le _) (Nat.zero_le _) dX10_split_157
  · refine a_loop 7 (fun (x4l : Int32 × St) => [(0, .ref (a0 0)), (1, .ref (a1 0)), (2, .int x2), (3, .int x4l.1)]) (fun (x4l : Int32 × St) => [bX10 y a0 x4l.2, bAB400 y a1 v1]) (fun rc4 x4l ih4 hf => ?_) hf rfl rfl
    try dsimp only at hf ⊢
    refine a_iloadn (pc := 7) (j := 3) F dX10_split_7 rfl rfl ?_
    refine a_iloadn (pc := 8) (j := 2) F dX10_split_8 rfl rfl ?_
    refine a_icmp_ge (pc := 9) (tgt := 148) F dX10_split_9 (by decide) (fun h => ?_) (fun h => ?_)
    · replace hf := it_pos h hf
      refine a_sub [0, 2] rfl ?_
      obtain rfl := Option.some.inj hf
      exact J2
    · replace hf := it_neg h hf
      refine a_aloadn (pc := 12) (j := 1) F dX10_split_12 rfl rfl ?_
      refine a_iloadn (pc := 13) (j := 3) F dX10_split_13 rfl rfl ?_
      obtain ⟨h5, hf⟩ := gd_some hf
      refine a_bald (pc := 14) (kb := 1) (j := 0) F rfl rfl h5 dX10_split_14 ?_
      refine a_sipush (pc := 15) F dX10_split_15 ks_255 ?_
      refine a_iand (pc := 18) F dX10_split_18 ?_
      obtain ⟨x4_6, ex4_6, hf⟩ := nm_some hf
      refine a_nmi ex4_6 ?_
      refine a_istore (pc := 19) (lv' := [(0, .ref (a0 0)), (1, .ref (a1 0)), (2, .int x2), (3, .int x4l.1), (4, .int x4_6)]) F [1, 2, 3, 4, 0] dX10_split_19 (by decide) rfl ?_
      refine a_iloadn (pc := 21) (j := 3) F dX10_split_21 rfl rfl ?_
      refine a_iconst (pc := 22) F dX10_split_22 kc_1 ?_
      refine a_iadd (pc := 23) F dX10_split_23 ?_
      obtain ⟨x5_7, ex5_7, hf⟩ := nm_some hf
      refine a_nmi ex5_7 ?_
      refine a_istore (pc := 24) (lv' := [(0, .ref (a0 0)), (1, .ref (a1 0)), (2, .int x2), (3, .int x4l.1), (4, .int x4_6), (5, .int x5_7)]) F [1, 2, 3, 4, 5, 0] dX10_split_24 (by decide) rfl ?_
      refine a_iload (pc := 26) (j := 4) F dX10_split_26 rfl ?_
      obtain ⟨t8, ht8, hf⟩ := bd_some hf
      refine a_callS (pc := 28) (bs' := [bX10 y a0 x4l.2, bAB400 y a1 v1]) F [] (c_X10_isLetter l D y ek n  _ _ ht8) (va_cwS 1 F.1.2.2.2.2 (gS q3_110 q3_111 q1_2 q3_112) rfl rfl rfl (by decide +kernel) ⟨Nat.le_of_ble_eq_true rfl, Nat.le_of_ble_eq_true rfl⟩) (by decide) rfl rfl rfl rfl rfl rfl (Nat.le_of_ble_eq_true rfl) ⟨Nat.zero_le _, Nat.zero_le _⟩ dX10_split_28 ?_
      refine a_join 142 (fun (t9 : Int32 × St) => [(0, .ref (a0 0)), (1, .ref (a1 0)), (2, .int x2), (5, .int t9.1)]) (fun (t9 : Int32 × St) => []) (fun (t9 : Int32 × St) => [bX10 y a0 t9.2, bAB400 y a1 v1]) hf (fun t9 hf => ?_) (fun t9 hf J9 => ?_)
      · try dsimp only at hf ⊢
        refine a_iload (pc := 142) (j := 3) F dX10_split_142 rfl ?_
        refine a_istoren (pc := 144) (lv' := [(0, .ref (a0 0)), (1, .ref (a1 0)), (2, .int x2), (3, .int t9.1), (5, .int t9.1)]) F [1, 2, 3, 0, 4] dX10_split_144 rfl (by decide) rfl ?_
        refine a_goto (pc := 145) (tgt := 7) F dX10_split_145 (by decide) ?_
        refine a_sub [0, 1, 2, 3] rfl ?_
        exact ih4 (t9.1, t9.2) hf
      · refine a_if_eq (pc := 31) (tgt := 58) F dX10_split_31 (by decide) (fun h => ?_) (fun h => ?_)
        · replace hf := it_pos h hf
          refine a_iload (pc := 58) (j := 4) F dX10_split_58 rfl ?_
          obtain ⟨t10, ht10, hf⟩ := bd_some hf
          refine a_callS (pc := 60) (bs' := [bX10 y a0 x4l.2, bAB400 y a1 v1]) F [] (c_X10_isDigit l D y ek n  _ _ ht10) (va_cwS 1 F.1.2.2.2.2 (gS q3_172 q3_173 q1_2 q3_174) rfl rfl rfl (by decide +kernel) ⟨Nat.le_of_ble_eq_true rfl, Nat.le_of_ble_eq_true rfl⟩) (by decide) rfl rfl rfl rfl rfl rfl (Nat.le_of_ble_eq_true rfl) ⟨Nat.zero_le _, Nat.zero_le _⟩ dX10_split_60 ?_
          refine a_if_eq (pc := 63) (tgt := 127) F dX10_split_63 (by decide) (fun h => ?_) (fun h => ?_)
          · replace hf := it_pos h hf
            refine a_iload (pc := 127) (j := 4) F dX10_split_127 rfl ?_
            refine a_bipush (pc := 129) F dX10_split_129 kb_32 ?_
            refine a_icmp_eq (pc := 131) (tgt := 142) F dX10_split_131 (by decide) (fun h => ?_) (fun h => ?_)
            · replace hf := it_pos h hf
              refine a_sub [0, 1, 2, 5] rfl ?_
              obtain rfl := Option.some.inj hf
              exact J9
            · replace hf := it_neg h hf
              refine a_aloadn (pc := 134) (j := 0) F dX10_split_134 rfl rfl ?_
              refine a_iload (pc := 135) (j := 4) F dX10_split_135 rfl ?_
              refine a_iconst (pc := 137) F dX10_split_137 kc_0 ?_
              refine a_iloadn (pc := 138) (j := 3) F dX10_split_138 rfl rfl ?_
              obtain ⟨t11, ht11, hf⟩ := bd_some hf
              refine a_callVv (pc := 139) (bs' := [bX10 y a0 t11, bAB400 y a1 v1]) (kb := 0) (j := 0) F [0] (c_X10_add l D y ek n a0 _ _ _ _ _ ht11) (cwV 3 F.1.2.2.2.2 (gV q3_168 q3_170 qs_5 q1_2 q3_171) rfl rfl rfl (by decide +kernel) ⟨Nat.le_of_ble_eq_true rfl, Nat.le_of_ble_eq_true rfl⟩) rfl rfl rfl rfl (by decide) rfl rfl rfl rfl rfl rfl (Nat.le_of_ble_eq_true rfl) ⟨Nat.zero_le _, Nat.zero_le _⟩ dX10_split_139 ?_
              refine a_sub [0, 1, 2, 5] rfl ?_
              obtain rfl := Option.some.inj hf
              exact J9
          · replace hf := it_neg h hf
            refine a_aloadn (pc := 66) (j := 1) F dX10_split_66 rfl rfl ?_
            refine a_iloadn (pc := 67) (j := 3) F dX10_split_67 rfl rfl ?_
            refine a_iloadn (pc := 68) (j := 2) F dX10_split_68 rfl rfl ?_
            obtain ⟨t12, ht12, hf⟩ := bd_some hf
            refine a_callS (pc := 69) (bs' := [bX10 y a0 x4l.2, bAB400 y a1 v1]) F [1] (c_X10_digitsEnd l D y ek n a1 _ _ _ _ ht12) (va_cwS 3 F.1.2.2.2.2 (gS q3_175 q3_176 q1_2 q3_177) rfl rfl rfl (by decide +kernel) ⟨Nat.le_of_ble_eq_true rfl, Nat.le_of_ble_eq_true rfl⟩) (by decide) rfl rfl rfl rfl rfl rfl (Nat.le_of_ble_eq_true rfl) ⟨Nat.zero_le _, Nat.zero_le _⟩ dX10_split_69 ?_
            refine a_istore (pc := 72) (lv' := [(0, .ref (a0 0)), (1, .ref (a1 0)), (2, .int x2), (3, .int x4l.1), (4, .int x4_6), (5, .int t12)]) F [1, 2, 3, 4, 5, 0] dX10_split_72 (by decide) rfl ?_
            refine a_iload (pc := 74) (j := 5) F dX10_split_74 rfl ?_
            refine a_iloadn (pc := 76) (j := 3) F dX10_split_76 rfl rfl ?_
            refine a_isub (pc := 77) F dX10_split_77 ?_
            refine a_iconst (pc := 78) F dX10_split_78 kc_3 ?_
            refine a_join 87 (fun (t13 : Int32) => [(0, .ref (a0 0)), (1, .ref (a1 0)), (2, .int x2), (3, .int x4l.1), (5, .int t12)]) (fun (t13 : Int32) => [.int t13]) (fun (t13 : Int32) => [bX10 y a0 x4l.2, bAB400 y a1 v1]) hf (fun t13 hf => ?_) (fun t13 hf J13 => ?_)
            · try dsimp only at hf ⊢
              refine a_istore (pc := 87) (lv' := [(0, .ref (a0 0)), (1, .ref (a1 0)), (2, .int x2), (3, .int x4l.1), (5, .int t12), (6, .int t13)]) F [1, 2, 3, 4, 5, 0] dX10_split_87 (by decide) rfl ?_
              refine a_aloadn (pc := 89) (j := 0) F dX10_split_89 rfl rfl ?_
              refine a_iload (pc := 90) (j := 5) F dX10_split_90 rfl ?_
              refine a_join 104 (fun (t14 : Int32) => [(0, .ref (a0 0)), (1, .ref (a1 0)), (2, .int x2), (3, .int x4l.1), (5, .int t12), (6, .int t13)]) (fun (t14 : Int32) => [.int t14, .ref (a0 0)]) (fun (t14 : Int32) => [bX10 y a0 x4l.2, bAB400 y a1 v1]) hf (fun t14 hf => ?_) (fun t14 hf J14 => ?_)
              · try dsimp only at hf ⊢
                refine a_iload (pc := 104) (j := 5) F dX10_split_104 rfl ?_
                refine a_join 120 (fun (t15 : Int32) => [(0, .ref (a0 0)), (1, .ref (a1 0)), (2, .int x2), (3, .int x4l.1), (5, .int t12)]) (fun (t15 : Int32) => [.int t15, .int t14, .ref (a0 0)]) (fun (t15 : Int32) => [bX10 y a0 x4l.2, bAB400 y a1 v1]) hf (fun t15 hf => ?_) (fun t15 hf J15 => ?_)
                · try dsimp only at hf ⊢
                  refine a_iloadn (pc := 120) (j := 3) F dX10_split_120 rfl rfl ?_
                  obtain ⟨t16, ht16, hf⟩ := bd_some hf
                  refine a_callVv (pc := 121) (bs' := [bX10 y a0 t16, bAB400 y a1 v1]) (kb := 0) (j := 0) F [0] (c_X10_add l D y ek n a0 _ _ _ _ _ ht16) (cwV 3 F.1.2.2.2.2 (gV q3_168 q3_170 qs_5 q1_2 q3_171) rfl rfl rfl (by decide +kernel) ⟨Nat.le_of_ble_eq_true rfl, Nat.le_of_ble_eq_true rfl⟩) rfl rfl rfl rfl (by decide) rfl rfl rfl rfl rfl rfl (Nat.le_of_ble_eq_true rfl) ⟨Nat.zero_le _, Nat.zero_le _⟩ dX10_split_121 ?_
                  refine a_goto (pc := 124) (tgt := 142) F dX10_split_124 (by decide) ?_
                  refine a_sub [0, 1, 2, 4] rfl ?_
                  obtain rfl := Option.some.inj hf
                  exact J9
                · refine a_if_eq (pc := 106) (tgt := 113) F dX10_split_106 (by decide) (fun h => ?_) (fun h => ?_)
                  · replace hf := it_pos h hf
                    refine a_aloadn (pc := 113) (j := 1) F dX10_split_113 rfl rfl ?_
                    refine a_iloadn (pc := 114) (j := 3) F dX10_split_114 rfl rfl ?_
                    refine a_iload (pc := 115) (j := 4) F dX10_split_115 rfl ?_
                    obtain ⟨t17, ht17, hf⟩ := bd_some hf
                    refine a_callS (pc := 117) (bs' := [bX10 y a0 x4l.2, bAB400 y a1 v1]) F [1] (c_X10_valueOf l D y ek n a1 _ _ _ _ ht17) (va_cwS 3 F.1.2.2.2.2 (gS q3_178 q3_179 q1_2 q3_180) rfl rfl rfl (by decide +kernel) ⟨Nat.le_of_ble_eq_true rfl, Nat.le_of_ble_eq_true rfl⟩) (by decide) rfl rfl rfl rfl rfl rfl (Nat.le_of_ble_eq_true rfl) ⟨Nat.zero_le _, Nat.zero_le _⟩ dX10_split_117 ?_
                    refine a_sub [0, 1, 2, 3, 4] rfl ?_
                    obtain rfl := Option.some.inj hf
                    exact J15
                  · replace hf := it_neg h hf
                    refine a_iconst (pc := 109) F dX10_split_109 kc_0 ?_
                    refine a_goto (pc := 110) (tgt := 120) F dX10_split_110 (by decide) ?_
                    refine a_sub [0, 1, 2, 3, 4] rfl ?_
                    obtain rfl := Option.some.inj hf
                    exact J15
              · refine a_if_eq (pc := 92) (tgt := 101) F dX10_split_92 (by decide) (fun h => ?_) (fun h => ?_)
                · replace hf := it_pos h hf
                  refine a_sipush (pc := 101) F dX10_split_101 ks_256 ?_
                  obtain rfl := Option.some.inj hf
                  exact J14
                · replace hf := it_neg h hf
                  refine a_sipush (pc := 95) F dX10_split_95 ks_257 ?_
                  refine a_goto (pc := 98) (tgt := 104) F dX10_split_98 (by decide) ?_
                  obtain rfl := Option.some.inj hf
                  exact J14
            · refine a_icmp_le (pc := 79) (tgt := 86) F dX10_split_79 (by decide) (fun h => ?_) (fun h => ?_)
              · replace hf := it_pos h hf
                refine a_iconst (pc := 86) F dX10_split_86 kc_0 ?_
                refine a_sub [0, 1, 2, 3, 5] rfl ?_
                obtain rfl := Option.some.inj hf
                exact J13
              · replace hf := it_neg h hf
                refine a_iconst (pc := 82) F dX10_split_82 kc_1 ?_
                refine a_goto (pc := 83) (tgt := 87) F dX10_split_83 (by decide) ?_
                refine a_sub [0, 1, 2, 3, 5] rfl ?_
                obtain rfl := Option.some.inj hf
                exact J13
        · replace hf := it_neg h hf
          refine a_aloadn (pc := 34) (j := 1) F dX10_split_34 rfl rfl ?_
          refine a_iloadn (pc := 35) (j := 3) F dX10_split_35 rfl rfl ?_
          refine a_iloadn (pc := 36) (j := 2) F dX10_split_36 rfl rfl ?_
          obtain ⟨t18, ht18, hf⟩ := bd_some hf
          refine a_callS (pc := 37) (bs' := [bX10 y a0 x4l.2, bAB400 y a1 v1]) F [1] (c_X10_lettersEnd l D y ek n a1 _ _ _ _ ht18) (va_cwS 3 F.1.2.2.2.2 (gS q3_113 q3_114 q1_2 q3_115) rfl rfl rfl (by decide +kernel) ⟨Nat.le_of_ble_eq_true rfl, Nat.le_of_ble_eq_true rfl⟩) (by decide) rfl rfl rfl rfl rfl rfl (Nat.le_of_ble_eq_true rfl) ⟨Nat.zero_le _, Nat.zero_le _⟩ dX10_split_37 ?_
          refine a_istore (pc := 40) (lv' := [(0, .ref (a0 0)), (1, .ref (a1 0)), (2, .int x2), (3, .int x4l.1), (4, .int x4_6), (5, .int t18)]) F [1, 2, 3, 4, 5, 0] dX10_split_40 (by decide) rfl ?_
          refine a_aloadn (pc := 42) (j := 0) F dX10_split_42 rfl rfl ?_
          refine a_aloadn (pc := 43) (j := 1) F dX10_split_43 rfl rfl ?_
          refine a_iloadn (pc := 44) (j := 3) F dX10_split_44 rfl rfl ?_
          refine a_iload (pc := 45) (j := 5) F dX10_split_45 rfl ?_
          obtain ⟨t19, ht19, hf⟩ := bd_some hf
          refine a_callS (pc := 47) (bs' := [bX10 y a0 x4l.2, bAB400 y a1 v1]) F [1] (c_X10_wordCode l D y ek n a1 _ _ _ _ ht19) (va_cwS 3 F.1.2.2.2.2 (gS q3_116 q3_117 q1_2 q3_118) rfl rfl rfl (by decide +kernel) ⟨Nat.le_of_ble_eq_true rfl, Nat.le_of_ble_eq_true rfl⟩) (by decide) rfl rfl rfl rfl rfl rfl (Nat.le_of_ble_eq_true rfl) ⟨Nat.zero_le _, Nat.zero_le _⟩ dX10_split_47 ?_
          refine a_iconst (pc := 50) F dX10_split_50 kc_0 ?_
          refine a_iloadn (pc := 51) (j := 3) F dX10_split_51 rfl rfl ?_
          obtain ⟨t20, ht20, hf⟩ := bd_some hf
          refine a_callVv (pc := 52) (bs' := [bX10 y a0 t20, bAB400 y a1 v1]) (kb := 0) (j := 0) F [0] (c_X10_add l D y ek n a0 _ _ _ _ _ ht20) (cwV 3 F.1.2.2.2.2 (gV q3_168 q3_170 qs_5 q1_2 q3_171) rfl rfl rfl (by decide +kernel) ⟨Nat.le_of_ble_eq_true rfl, Nat.le_of_ble_eq_true rfl⟩) rfl rfl rfl rfl (by decide) rfl rfl rfl rfl rfl rfl (Nat.le_of_ble_eq_true rfl) ⟨Nat.zero_le _, Nat.zero_le _⟩ dX10_split_52 ?_
          refine a_goto (pc := 55) (tgt := 142) F dX10_split_55 (by decide) ?_
          refine a_sub [0, 1, 2, 5] rfl ?_
          obtain rfl := Option.some.inj hf
          exact J9

abbrev wX10_code : List Cond := Cond.code yX10_code cX10_code 2 (some .int) :: WALL
def m_X10_code (n : Nat) (v0 : St) (x1 : Int32) : Option (Int32) :=
jn (fun (t1 : Unit) =>
some 259) (fun (K1 : Unit → Option (Int32)) =>
(if x1 < 0 then
K1 ()
else
(if (v0 3 0) ≤ x1 then
K1 ()
else
(if ix x1 401 then some (v0 0 (x1).toNatClampNeg) else none))))
set_option maxHeartbeats 4000000 in
set_option maxRecDepth 100000 in
theorem c_X10_code (l : Launch) (D : va_G) (y : Nat → ClassId) (ek : EK) (n : Nat) (a0 : Nat → Nat) (v0 : St) (x1 : Int32) (res : Int32) (hf : m_X10_code n v0 x1 = some res) : CI l yX10_code wX10_code { frames := 0, cells := 0, slots := 0, locals := 0 } D y ek [.ref (a0 0), .int x1] [bX10 y a0 v0] (res) [bX10 y a0 v0] 0 0 := by
  unfold m_X10_code at hf
  refine ci_of (cc := cX10_code) (maxL := 2) (by decide) rfl rfl (Nat.le_of_ble_eq_true rfl) ?_
  intro p e s m below meth c Q A F hret
  refine a_lv (lv' := [(0, .ref (a0 0)), (1, .int x1)]) rfl ?_
  refine a_iloadn (pc := 0) (j := 1) F dX10_code_0 rfl rfl ?_
  refine a_jn 21 (fun (t1 : Unit) => []) (fun (t1 : Unit) => []) (fun (t1 : Unit) => [bX10 y a0 v0]) hf (fun t1 hf => ?_) (fun K1 hK1 hf => ?_)
  · try dsimp only at hf ⊢
    refine a_sipush (pc := 21) F dX10_code_21 ks_259 ?_
    obtain rfl := Option.some.inj hf
    exact hret _ _ _ _ (Nat.zero_le _) (Nat.zero_le _) rfl dX10_code_24
  · try dsimp only at hf
    refine a_if_lt (pc := 1) (tgt := 21) F dX10_code_1 (by decide) (fun h => ?_) (fun h => ?_)
    · replace hf := it_pos h hf
      refine a_sub [] rfl ?_
      exact hK1 () hf
    · replace hf := it_neg h hf
      refine a_iloadn (pc := 4) (j := 1) F dX10_code_4 rfl rfl ?_
      refine a_aloadn (pc := 5) (j := 0) F dX10_code_5 rfl rfl ?_
      refine a_get (pc := 6) (kb := 0) (j := 0) (f := 3) F iW_X10 rfl rfl rfl (by decide) (tl q1_47) (fun _ h => h) rfl dX10_code_6 ?_
      refine a_icmp_ge (pc := 9) (tgt := 21) F dX10_code_9 (by decide) (fun h => ?_) (fun h => ?_)
      · replace hf := it_pos h hf
        refine a_sub [] rfl ?_
        exact hK1 () hf
      · replace hf := it_neg h hf
        refine a_aloadn (pc := 12) (j := 0) F dX10_code_12 rfl rfl ?_
        refine a_get (pc := 13) (kb := 0) (j := 0) (f := 0) F iW_X10 rfl rfl rfl (by decide) (tl q1_43) (fun _ h => h) rfl dX10_code_13 ?_
        refine a_iloadn (pc := 16) (j := 1) F dX10_code_16 rfl rfl ?_
        obtain ⟨h2, hf⟩ := gd_some hf
        refine a_iald (pc := 17) (kb := 0) (j := 1) F rfl rfl h2 dX10_code_17 ?_
        refine a_goto (pc := 18) (tgt := 24) F dX10_code_18 (by decide) ?_
        obtain rfl := Option.some.inj hf
        exact hret _ _ _ _ (Nat.zero_le _) (Nat.zero_le _) rfl dX10_code_24

abbrev wX10_value : List Cond := Cond.code yX10_value cX10_value 2 (some .int) :: WALL
def m_X10_value (n : Nat) (v0 : St) (x1 : Int32) : Option (Int32) :=
jn (fun (t1 : Unit) =>
some 0) (fun (K1 : Unit → Option (Int32)) =>
(if x1 < 0 then
K1 ()
else
(if (v0 3 0) ≤ x1 then
K1 ()
else
(if ix x1 401 then some (v0 1 (x1).toNatClampNeg) else none))))
set_option maxHeartbeats 4000000 in
set_option maxRecDepth 100000 in
theorem c_X10_value (l : Launch) (D : va_G) (y : Nat → ClassId) (ek : EK) (n : Nat) (a0 : Nat → Nat) (v0 : St) (x1 : Int32) (res : Int32) (hf : m_X10_value n v0 x1 = some res) : CI l yX10_value wX10_value { frames := 0, cells := 0, slots := 0, locals := 0 } D y ek [.ref (a0 0), .int x1] [bX10 y a0 v0] (res) [bX10 y a0 v0] 0 0 := by
  unfold m_X10_value at hf
  refine ci_of (cc := cX10_value) (maxL := 2) (by decide) rfl rfl (Nat.le_of_ble_eq_true rfl) ?_
  intro p e s m below meth c Q A F hret
  refine a_lv (lv' := [(0, .ref (a0 0)), (1, .int x1)]) rfl ?_
  refine a_iloadn (pc := 0) (j := 1) F dX10_value_0 rfl rfl ?_
  refine a_jn 21 (fun (t1 : Unit) => []) (fun (t1 : Unit) => []) (fun (t1 : Unit) => [bX10 y a0 v0]) hf (fun t1 hf => ?_) (fun K1 hK1 hf => ?_)
  · try dsimp only at hf ⊢
    refine a_iconst (pc := 21) F dX10_value_21 kc_0 ?_
    obtain rfl := Option.some.inj hf
    exact hret _ _ _ _ (Nat.zero_le _) (Nat.zero_le _) rfl dX10_value_22
  · try dsimp only at hf
    refine a_if_lt (pc := 1) (tgt := 21) F dX10_value_1 (by decide) (fun h => ?_) (fun h => ?_)
    · replace hf := it_pos h hf
      refine a_sub [] rfl ?_
      exact hK1 () hf
    · replace hf := it_neg h hf
      refine a_iloadn (pc := 4) (j := 1) F dX10_value_4 rfl rfl ?_
      refine a_aloadn (pc := 5) (j := 0) F dX10_value_5 rfl rfl ?_
      refine a_get (pc := 6) (kb := 0) (j := 0) (f := 3) F iW_X10 rfl rfl rfl (by decide) (tl q1_47) (fun _ h => h) rfl dX10_value_6 ?_
      refine a_icmp_ge (pc := 9) (tgt := 21) F dX10_value_9 (by decide) (fun h => ?_) (fun h => ?_)
      · replace hf := it_pos h hf
        refine a_sub [] rfl ?_
        exact hK1 () hf
      · replace hf := it_neg h hf
        refine a_aloadn (pc := 12) (j := 0) F dX10_value_12 rfl rfl ?_
        refine a_get (pc := 13) (kb := 0) (j := 0) (f := 1) F iW_X10 rfl rfl rfl (by decide) (tl q1_45) (fun _ h => h) rfl dX10_value_13 ?_
        refine a_iloadn (pc := 16) (j := 1) F dX10_value_16 rfl rfl ?_
        obtain ⟨h2, hf⟩ := gd_some hf
        refine a_iald (pc := 17) (kb := 0) (j := 2) F rfl rfl h2 dX10_value_17 ?_
        refine a_goto (pc := 18) (tgt := 22) F dX10_value_18 (by decide) ?_
        obtain rfl := Option.some.inj hf
        exact hret _ _ _ _ (Nat.zero_le _) (Nat.zero_le _) rfl dX10_value_22

abbrev wX10_start : List Cond := Cond.code yX10_start cX10_start 2 (some .int) :: WALL
def m_X10_start (n : Nat) (v0 : St) (x1 : Int32) : Option (Int32) :=
jn (fun (t1 : Unit) =>
some 0) (fun (K1 : Unit → Option (Int32)) =>
(if x1 < 0 then
K1 ()
else
(if (v0 3 0) ≤ x1 then
K1 ()
else
(if ix x1 401 then some (v0 2 (x1).toNatClampNeg) else none))))
set_option maxHeartbeats 4000000 in
set_option maxRecDepth 100000 in
theorem c_X10_start (l : Launch) (D : va_G) (y : Nat → ClassId) (ek : EK) (n : Nat) (a0 : Nat → Nat) (v0 : St) (x1 : Int32) (res : Int32) (hf : m_X10_start n v0 x1 = some res) : CI l yX10_start wX10_start { frames := 0, cells := 0, slots := 0, locals := 0 } D y ek [.ref (a0 0), .int x1] [bX10 y a0 v0] (res) [bX10 y a0 v0] 0 0 := by
  unfold m_X10_start at hf
  refine ci_of (cc := cX10_start) (maxL := 2) (by decide) rfl rfl (Nat.le_of_ble_eq_true rfl) ?_
  intro p e s m below meth c Q A F hret
  refine a_lv (lv' := [(0, .ref (a0 0)), (1, .int x1)]) rfl ?_
  refine a_iloadn (pc := 0) (j := 1) F dX10_start_0 rfl rfl ?_
  refine a_jn 21 (fun (t1 : Unit) => []) (fun (t1 : Unit) => []) (fun (t1 : Unit) => [bX10 y a0 v0]) hf (fun t1 hf => ?_) (fun K1 hK1 hf => ?_)
  · try dsimp only at hf ⊢
    refine a_iconst (pc := 21) F dX10_start_21 kc_0 ?_
    obtain rfl := Option.some.inj hf
    exact hret _ _ _ _ (Nat.zero_le _) (Nat.zero_le _) rfl dX10_start_22
  · try dsimp only at hf
    refine a_if_lt (pc := 1) (tgt := 21) F dX10_start_1 (by decide) (fun h => ?_) (fun h => ?_)
    · replace hf := it_pos h hf
      refine a_sub [] rfl ?_
      exact hK1 () hf
    · replace hf := it_neg h hf
      refine a_iloadn (pc := 4) (j := 1) F dX10_start_4 rfl rfl ?_
      refine a_aloadn (pc := 5) (j := 0) F dX10_start_5 rfl rfl ?_
      refine a_get (pc := 6) (kb := 0) (j := 0) (f := 3) F iW_X10 rfl rfl rfl (by decide) (tl q1_47) (fun _ h => h) rfl dX10_start_6 ?_
      refine a_icmp_ge (pc := 9) (tgt := 21) F dX10_start_9 (by decide) (fun h => ?_) (fun h => ?_)
      · replace hf := it_pos h hf
        refine a_sub [] rfl ?_
        exact hK1 () hf
      · replace hf := it_neg h hf
        refine a_aloadn (pc := 12) (j := 0) F dX10_start_12 rfl rfl ?_
        refine a_get (pc := 13) (kb := 0) (j := 0) (f := 2) F iW_X10 rfl rfl rfl (by decide) (tl q1_46) (fun _ h => h) rfl dX10_start_13 ?_
        refine a_iloadn (pc := 16) (j := 1) F dX10_start_16 rfl rfl ?_
        obtain ⟨h2, hf⟩ := gd_some hf
        refine a_iald (pc := 17) (kb := 0) (j := 3) F rfl rfl h2 dX10_start_17 ?_
        refine a_goto (pc := 18) (tgt := 22) F dX10_start_18 (by decide) ?_
        obtain rfl := Option.some.inj hf
        exact hret _ _ _ _ (Nat.zero_le _) (Nat.zero_le _) rfl dX10_start_22
