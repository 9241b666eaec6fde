abbrev wX10_isLetter : List Cond := Cond.code yX10_isLetter cX10_isLetter 1 (some .boolean) :: WALL
def m_X10_isLetter (n : Nat) (x0 : Int32) : Option (Int32) :=
jn (fun (t1 : Unit) =>
some 0) (fun (K1 : Unit → Option (Int32)) =>
(if x0 < 97 then
K1 ()
else
(if 122 < x0 then
K1 ()
else
some 1)))
set_option maxHeartbeats 4000000 in
set_option maxRecDepth 100000 in
theorem c_X10_isLetter (l : Launch) (D : va_G) (y : Nat → ClassId) (ek : EK) (n : Nat) (x0 : Int32) (res : Int32) (hf : m_X10_isLetter n x0 = some res) : CI l yX10_isLetter wX10_isLetter { frames := 0, cells := 0, slots := 0, locals := 0 } D y ek [.int x0] [] (res) [] 0 0 := by
  unfold m_X10_isLetter at hf
  refine ci_of (cc := cX10_isLetter) (maxL := 1) (by decide) rfl rfl (Nat.le_of_ble_eq_true rfl) ?_
  intro p e s m below meth c Q A F hret
  refine a_lv (lv' := [(0, .int x0)]) rfl ?_
  refine a_iloadn (pc := 0) (j := 0) F dX10_isLetter_0 rfl rfl ?_
  refine a_bipush (pc := 1) F dX10_isLetter_1 kb_97 ?_
  refine a_jn 16 (fun (t1 : Unit) => []) (fun (t1 : Unit) => []) (fun (t1 : Unit) => []) hf (fun t1 hf => ?_) (fun K1 hK1 hf => ?_)
  · try dsimp only at hf ⊢
    refine a_iconst (pc := 16) F dX10_isLetter_16 kc_0 ?_
    obtain rfl := Option.some.inj hf
    exact hret _ _ _ _ (Nat.zero_le _) (Nat.zero_le _) (z_nar (Or.inl rfl)) dX10_isLetter_17
  · try dsimp only at hf
    refine a_icmp_lt (pc := 3) (tgt := 16) F dX10_isLetter_3 (by decide) (fun h => ?_) (fun h => ?_)
    · replace hf := it_pos h hf
      refine a_sub [] rfl ?_
      exact hK1 () hf
    · replace hf := it_neg h hf
      refine a_iloadn (pc := 6) (j := 0) F dX10_isLetter_6 rfl rfl ?_
      refine a_bipush (pc := 7) F dX10_isLetter_7 kb_122 ?_
      refine a_icmp_gt (pc := 9) (tgt := 16) F dX10_isLetter_9 (by decide) (fun h => ?_) (fun h => ?_)
      · replace hf := it_pos h hf
        refine a_sub [] rfl ?_
        exact hK1 () hf
      · replace hf := it_neg h hf
        refine a_iconst (pc := 12) F dX10_isLetter_12 kc_1 ?_
        refine a_goto (pc := 13) (tgt := 17) F dX10_isLetter_13 (by decide) ?_
        obtain rfl := Option.some.inj hf
        exact hret _ _ _ _ (Nat.zero_le _) (Nat.zero_le _) (z_nar (Or.inr rfl)) dX10_isLetter_17

abbrev wX10_lettersEnd : List Cond := Cond.code yX10_lettersEnd cX10_lettersEnd 4 (some .int) :: WALL
def m_X10_lettersEnd (n : Nat) (v0 : St) (x1 : Int32) (x2 : Int32) : Option (Int32) :=
nm (x1 + 1) (fun x3_1 =>
bd (lp (fun (rc3 : Int32 → Option (Int32)) (x3l : Int32) =>
(if x2 ≤ x3l then
some x3l
else
(if ix x3l 400 then bd (m_X10_isLetter n (v0 0 (x3l).toNatClampNeg)) (fun t5 =>
(if t5 = 0 then
some x3l
else
rc3 (x3l + 1))) else none))) n x3_1) (fun (t2 : Int32) =>
some t2))
set_option maxHeartbeats 4000000 in
set_option maxRecDepth 100000 in
theorem c_X10_lettersEnd (l : Launch) (D : va_G) (y : Nat → ClassId) (ek : EK) (n : Nat) (a0 : Nat → Nat) (v0 : St) (x1 : Int32) (x2 : Int32) (res : Int32) (hf : m_X10_lettersEnd n v0 x1 x2 = some res) : CI l yX10_lettersEnd wX10_lettersEnd { frames := 1, cells := 0, slots := 0, locals := 20 } D y ek [.ref (a0 0), .int x1, .int x2] [bAB400 y a0 v0] (res) [bAB400 y a0 v0] 0 0 := by
  unfold m_X10_lettersEnd at hf
  refine ci_of (cc := cX10_lettersEnd) (maxL := 4) (by decide) rfl rfl (Nat.le_of_ble_eq_true rfl) ?_
  intro p e s m below meth c Q A F hret
  refine a_lv (lv' := [(0, .ref (a0 0)), (1, .int x1), (2, .int x2)]) rfl ?_
  refine a_iloadn (pc := 0) (j := 1) F dX10_lettersEnd_0 rfl rfl ?_
  refine a_iconst (pc := 1) F dX10_lettersEnd_1 kc_1 ?_
  refine a_iadd (pc := 2) F dX10_lettersEnd_2 ?_
  obtain ⟨x3_1, ex3_1, hf⟩ := nm_some hf
  refine a_nmi ex3_1 ?_
  refine a_istoren (pc := 3) (lv' := [(0, .ref (a0 0)), (1, .int x1), (2, .int x2), (3, .int x3_1)]) F [1, 2, 3, 0] dX10_lettersEnd_3 rfl (by decide) rfl ?_
  refine a_join 24 (fun (t2 : Int32) => [(3, .int t2)]) (fun (t2 : Int32) => []) (fun (t2 : Int32) => [bAB400 y a0 v0]) hf (fun t2 hf => ?_) (fun t2 hf J2 => ?_)
  · try dsimp only at hf ⊢
    refine a_iloadn (pc := 24) (j := 0) F dX10_lettersEnd_24 rfl rfl ?_
    obtain rfl := Option.some.inj hf
    exact hret _ _ _ _ (Nat.zero_le _) (Nat.zero_le _) rfl dX10_lettersEnd_25
  · refine a_sub [0, 2, 3] rfl ?_
    refine a_loop 4 (fun (x3l : Int32) => [(0, .ref (a0 0)), (2, .int x2), (3, .int x3l)]) (fun (x3l : Int32) => [bAB400 y a0 v0]) (fun rc3 x3l ih3 hf => ?_) hf rfl rfl
    try dsimp only at hf ⊢
    refine a_iloadn (pc := 4) (j := 2) F dX10_lettersEnd_4 rfl rfl ?_
    refine a_iloadn (pc := 5) (j := 1) F dX10_lettersEnd_5 rfl rfl ?_
    refine a_icmp_ge (pc := 6) (tgt := 24) F dX10_lettersEnd_6 (by decide) (fun h => ?_) (fun h => ?_)
    · replace hf := it_pos h hf
      refine a_sub [2] rfl ?_
      obtain rfl := Option.some.inj hf
      exact J2
    · replace hf := it_neg h hf
      refine a_aloadn (pc := 9) (j := 0) F dX10_lettersEnd_9 rfl rfl ?_
      refine a_iloadn (pc := 10) (j := 2) F dX10_lettersEnd_10 rfl rfl ?_
      obtain ⟨h4, hf⟩ := gd_some hf
      refine a_bald (pc := 11) (kb := 0) (j := 0) F rfl rfl h4 dX10_lettersEnd_11 ?_
      obtain ⟨t5, ht5, hf⟩ := bd_some hf
      refine a_callS (pc := 12) (bs' := [bAB400 y a0 v0]) F [] (c_X10_isLetter l D y ek n  _ _ ht5) (va_cwS 1 F.1.2.2.2.2 (gS q3_114 q3_115 q1_2 q3_116) rfl rfl rfl (by decide +kernel) ⟨Nat.le_of_ble_eq_true rfl, Nat.le_of_ble_eq_true rfl⟩) (by decide) rfl rfl rfl rfl rfl rfl (Nat.le_of_ble_eq_true rfl) ⟨Nat.zero_le _, Nat.zero_le _⟩ dX10_lettersEnd_12 ?_
      refine a_if_eq (pc := 15) (tgt := 24) F dX10_lettersEnd_15 (by decide) (fun h => ?_) (fun h => ?_)
      · replace hf := it_pos h hf
        refine a_sub [2] rfl ?_
        obtain rfl := Option.some.inj hf
        exact J2
      · replace hf := it_neg h hf
        refine a_iinc (pc := 18) (j := 2) (v := (x3l + 1)) (lv' := [(0, .ref (a0 0)), (2, .int x2), (3, .int (x3l + 1))]) F [1, 2, 0] dX10_lettersEnd_18 rfl ki_1 (by decide) rfl ?_
        refine a_goto (pc := 21) (tgt := 4) F dX10_lettersEnd_21 (by decide) ?_
        exact ih3 (x3l + 1) hf

abbrev wX10_wordCode : List Cond := Cond.code yX10_wordCode cX10_wordCode 8 (some .int) :: WALL
def m_X10_wordCode (n : Nat) (v0 : St) (x1 : Int32) (x2 : Int32) : Option (Int32) :=
nm (x2 - x1) (fun x3_1 =>
lp (fun (rc2 : Int32 × Int32 × Int32 → Option (Int32)) (x2l : Int32 × Int32 × Int32) =>
(if (Int32.ofNat (sLen.getD 0 0)) ≤ x2l.2.2 then
some 258
else
(if ix x2l.2.2 (sLen.getD 0 0) then nm (s_ch 0 x2l.2.2) (fun x7_4 =>
jn (fun (t5 : Int32 × Int32) =>
rc2 (t5.1, t5.2, (x2l.2.2 + 1))) (fun (K5 : Int32 × Int32 → Option (Int32)) =>
(if x7_4 = 32 then
(if x2l.2.1 = x3_1 then
some x2l.1
else
K5 ((x2l.1 + 1), 0))
else
jn (fun (t6 : Unit) =>
K5 (x2l.1, (-1))) (fun (K6 : Unit → Option (Int32)) =>
(if x2l.2.1 < 0 then
K6 ()
else
(if x3_1 ≤ x2l.2.1 then
K6 ()
else
(if ix (x1 + x2l.2.1) 400 then (if (v0 0 ((x1 + x2l.2.1)).toNatClampNeg) = x7_4 then
K5 (x2l.1, (x2l.2.1 + 1))
else
K6 ()) else none))))))) else none))) n (300, 0, 0))
set_option maxHeartbeats 4000000 in
set_option maxRecDepth 100000 in
theorem c_X10_wordCode (l : Launch) (D : va_G) (y : Nat → ClassId) (ek : EK) (n : Nat) (a0 : Nat → Nat) (v0 : St) (x1 : Int32) (x2 : Int32) (res : Int32) (hf : m_X10_wordCode n v0 x1 x2 = some res) : CI l yX10_wordCode wX10_wordCode { frames := 4, cells := 0, slots := 0, locals := 85 } D y ek [.ref (a0 0), .int x1, .int x2] [bAB400 y a0 v0] (res) [bAB400 y a0 v0] 0 0 := by
  unfold m_X10_wordCode at hf
  refine ci_of (cc := cX10_wordCode) (maxL := 8) (by decide) rfl rfl (Nat.le_of_ble_eq_true rfl) ?_
  intro p e s m below meth c Q A F hret
  refine a_lv (lv' := [(0, .ref (a0 0)), (1, .int x1), (2, .int x2)]) rfl ?_
  refine a_iloadn (pc := 0) (j := 2) F dX10_wordCode_0 rfl rfl ?_
  refine a_iloadn (pc := 1) (j := 1) F dX10_wordCode_1 rfl rfl ?_
  refine a_isub (pc := 2) F dX10_wordCode_2 ?_
  obtain ⟨x3_1, ex3_1, hf⟩ := nm_some hf
  refine a_nmi ex3_1 ?_
  refine a_istoren (pc := 3) (lv' := [(0, .ref (a0 0)), (1, .int x1), (2, .int x2), (3, .int x3_1)]) F [1, 2, 3, 0] dX10_wordCode_3 rfl (by decide) rfl ?_
  refine a_sipush (pc := 4) F dX10_wordCode_4 ks_300 ?_
  refine a_istore (pc := 7) (lv' := [(0, .ref (a0 0)), (1, .int x1), (2, .int x2), (3, .int x3_1), (4, .int 300)]) F [1, 2, 3, 4, 0] dX10_wordCode_7 (by decide) rfl ?_
  refine a_iconst (pc := 9) F dX10_wordCode_9 kc_0 ?_
  refine a_istore (pc := 10) (lv' := [(0, .ref (a0 0)), (1, .int x1), (2, .int x2), (3, .int x3_1), (4, .int 300), (5, .int 0)]) F [1, 2, 3, 4, 5, 0] dX10_wordCode_10 (by decide) rfl ?_
  refine a_iconst (pc := 12) F dX10_wordCode_12 kc_0 ?_
  refine a_istore (pc := 13) (lv' := [(0, .ref (a0 0)), (1, .int x1), (2, .int x2), (3, .int x3_1), (4, .int 300), (5, .int 0), (6, .int 0)]) F [1, 2, 3, 4, 5, 6, 0] dX10_wordCode_13 (by decide) rfl ?_
  refine a_sub [0, 1, 3, 4, 5, 6] rfl ?_
  refine a_loop 15 (fun (x2l : Int32 × Int32 × Int32) => [(0, .ref (a0 0)), (1, .int x1), (3, .int x3_1), (4, .int x2l.1), (5, .int x2l.2.1), (6, .int x2l.2.2)]) (fun (x2l : Int32 × Int32 × Int32) => [bAB400 y a0 v0]) (fun rc2 x2l ih2 hf => ?_) hf rfl rfl
  try dsimp only at hf ⊢
  refine a_iload (pc := 15) (j := 5) F dX10_wordCode_15 rfl ?_
  refine a_ldcS (pc := 17) (tx := "plank purse guests thing snow step fall thieves fee worth in age rent lure if or and not up level house height load aged week ") F 0 rfl dX10_wordCode_17 ?_
  refine a_callStr (pc := 19) (i := 0) F (by decide) (c_J0len l D y ek 0 (by decide)) (cwV 0 F.1.2.2.2.2 (gV q3_124 q3_125 q3_126 q1_12 q3_127) rfl rfl rfl (by decide +kernel) ⟨Nat.le_of_ble_eq_true rfl, Nat.le_of_ble_eq_true rfl⟩) rfl rfl (Nat.le_of_ble_eq_true rfl) ⟨Nat.zero_le _, Nat.zero_le _⟩ dX10_wordCode_19 ?_
  refine a_icmp_ge (pc := 22) (tgt := 96) F dX10_wordCode_22 (by decide) (fun h => ?_) (fun h => ?_)
  · replace hf := it_pos h hf
    refine a_sipush (pc := 96) F dX10_wordCode_96 ks_258 ?_
    obtain rfl := Option.some.inj hf
    exact hret _ _ _ _ (Nat.zero_le _) (Nat.zero_le _) rfl dX10_wordCode_99
  · replace hf := it_neg h hf
    refine a_ldcS (pc := 25) (tx := "plank purse guests thing snow step fall thieves fee worth in age rent lure if or and not up level house height load aged week ") F 0 rfl dX10_wordCode_25 ?_
    refine a_iload (pc := 27) (j := 5) F dX10_wordCode_27 rfl ?_
    obtain ⟨h3, hf⟩ := gd_some hf
    refine a_callStr (pc := 29) (i := 0) F (by decide) (c_J0ch l D y ek 0 x2l.2.2 (by decide) h3) (cwV 1 F.1.2.2.2.2 (gV q3_134 q3_135 q3_136 q1_12 q3_137) rfl rfl rfl (by decide +kernel) ⟨Nat.le_of_ble_eq_true rfl, Nat.le_of_ble_eq_true rfl⟩) rfl rfl (Nat.le_of_ble_eq_true rfl) ⟨Nat.zero_le _, Nat.zero_le _⟩ dX10_wordCode_29 ?_
    obtain ⟨x7_4, ex7_4, hf⟩ := nm_some hf
    refine a_nmi ex7_4 ?_
    refine a_istore (pc := 32) (lv' := [(0, .ref (a0 0)), (1, .int x1), (3, .int x3_1), (4, .int x2l.1), (5, .int x2l.2.1), (6, .int x2l.2.2), (7, .int x7_4)]) F [1, 2, 3, 4, 5, 6, 0] dX10_wordCode_32 (by decide) rfl ?_
    refine a_iload (pc := 34) (j := 6) F dX10_wordCode_34 rfl ?_
    refine a_bipush (pc := 36) F dX10_wordCode_36 kb_32 ?_
    refine a_jn 90 (fun (t5 : Int32 × Int32) => [(0, .ref (a0 0)), (1, .int x1), (3, .int x3_1), (4, .int t5.1), (5, .int t5.2), (6, .int x2l.2.2)]) (fun (t5 : Int32 × Int32) => []) (fun (t5 : Int32 × Int32) => [bAB400 y a0 v0]) hf (fun t5 hf => ?_) (fun K5 hK5 hf => ?_)
    · try dsimp only at hf ⊢
      refine a_iinc (pc := 90) (j := 5) (v := (x2l.2.2 + 1)) (lv' := [(0, .ref (a0 0)), (1, .int x1), (3, .int x3_1), (4, .int t5.1), (5, .int t5.2), (6, .int (x2l.2.2 + 1))]) F [1, 2, 3, 4, 5, 0] dX10_wordCode_90 rfl ki_1 (by decide) rfl ?_
      refine a_goto (pc := 93) (tgt := 15) F dX10_wordCode_93 (by decide) ?_
      exact ih2 (t5.1, t5.2, (x2l.2.2 + 1)) hf
    · try dsimp only at hf
      refine a_icmp_ne (pc := 38) (tgt := 59) F dX10_wordCode_38 (by decide) (fun h => ?_) (fun h => ?_)
      · replace hf := it_neg h hf
        refine a_iload (pc := 59) (j := 4) F dX10_wordCode_59 rfl ?_
        refine a_jn 87 (fun (t6 : Unit) => [(0, .ref (a0 0)), (1, .int x1), (3, .int x3_1), (4, .int x2l.1), (6, .int x2l.2.2)]) (fun (t6 : Unit) => []) (fun (t6 : Unit) => [bAB400 y a0 v0]) hf (fun t6 hf => ?_) (fun K6 hK6 hf => ?_)
        · try dsimp only at hf ⊢
          refine a_iconst (pc := 87) F dX10_wordCode_87 kc_m1 ?_
          refine a_istore (pc := 88) (lv' := [(0, .ref (a0 0)), (1, .int x1), (3, .int x3_1), (4, .int x2l.1), (5, .int (-1)), (6, .int x2l.2.2)]) F [1, 2, 3, 4, 0, 5] dX10_wordCode_88 (by decide) rfl ?_
          exact hK5 (x2l.1, (-1)) hf
        · try dsimp only at hf
          refine a_if_lt (pc := 61) (tgt := 87) F dX10_wordCode_61 (by decide) (fun h => ?_) (fun h => ?_)
          · replace hf := it_pos h hf
            refine a_sub [0, 1, 2, 3, 5] rfl ?_
            exact hK6 () hf
          · replace hf := it_neg h hf
            refine a_iload (pc := 64) (j := 4) F dX10_wordCode_64 rfl ?_
            refine a_iloadn (pc := 66) (j := 2) F dX10_wordCode_66 rfl rfl ?_
            refine a_icmp_ge (pc := 67) (tgt := 87) F dX10_wordCode_67 (by decide) (fun h => ?_) (fun h => ?_)
            · replace hf := it_pos h hf
              refine a_sub [0, 1, 2, 3, 5] rfl ?_
              exact hK6 () hf
            · replace hf := it_neg h hf
              refine a_aloadn (pc := 70) (j := 0) F dX10_wordCode_70 rfl rfl ?_
              refine a_iloadn (pc := 71) (j := 1) F dX10_wordCode_71 rfl rfl ?_
              refine a_iload (pc := 72) (j := 4) F dX10_wordCode_72 rfl ?_
              refine a_iadd (pc := 74) F dX10_wordCode_74 ?_
              obtain ⟨h7, hf⟩ := gd_some hf
              refine a_bald (pc := 75) (kb := 0) (j := 0) F rfl rfl h7 dX10_wordCode_75 ?_
              refine a_iload (pc := 76) (j := 6) F dX10_wordCode_76 rfl ?_
              refine a_icmp_ne (pc := 78) (tgt := 87) F dX10_wordCode_78 (by decide) (fun h => ?_) (fun h => ?_)
              · replace hf := it_neg h hf
                refine a_sub [0, 1, 2, 3, 5] rfl ?_
                exact hK6 () hf
              · replace hf := it_pos h hf
                refine a_iinc (pc := 81) (j := 4) (v := (x2l.2.1 + 1)) (lv' := [(0, .ref (a0 0)), (1, .int x1), (3, .int x3_1), (4, .int x2l.1), (5, .int (x2l.2.1 + 1)), (6, .int x2l.2.2), (7, .int x7_4)]) F [1, 2, 3, 4, 0, 5, 6] dX10_wordCode_81 rfl ki_1 (by decide) rfl ?_
                refine a_goto (pc := 84) (tgt := 90) F dX10_wordCode_84 (by decide) ?_
                refine a_sub [0, 1, 2, 3, 4, 5] rfl ?_
                exact hK5 (x2l.1, (x2l.2.1 + 1)) hf
      · replace hf := it_pos h hf
        refine a_iload (pc := 41) (j := 4) F dX10_wordCode_41 rfl ?_
        refine a_iloadn (pc := 43) (j := 2) F dX10_wordCode_43 rfl rfl ?_
        refine a_icmp_ne (pc := 44) (tgt := 50) F dX10_wordCode_44 (by decide) (fun h => ?_) (fun h => ?_)
        · replace hf := it_neg h hf
          refine a_iinc (pc := 50) (j := 3) (v := (x2l.1 + 1)) (lv' := [(0, .ref (a0 0)), (1, .int x1), (3, .int x3_1), (4, .int (x2l.1 + 1)), (5, .int x2l.2.1), (6, .int x2l.2.2), (7, .int x7_4)]) F [1, 2, 3, 0, 4, 5, 6] dX10_wordCode_50 rfl ki_1 (by decide) rfl ?_
          refine a_iconst (pc := 53) F dX10_wordCode_53 kc_0 ?_
          refine a_istore (pc := 54) (lv' := [(0, .ref (a0 0)), (1, .int x1), (3, .int x3_1), (4, .int (x2l.1 + 1)), (5, .int 0), (6, .int x2l.2.2), (7, .int x7_4)]) F [1, 2, 3, 4, 0, 5, 6] dX10_wordCode_54 (by decide) rfl ?_
          refine a_goto (pc := 56) (tgt := 90) F dX10_wordCode_56 (by decide) ?_
          refine a_sub [0, 1, 2, 3, 4, 5] rfl ?_
          exact hK5 ((x2l.1 + 1), 0) hf
        · replace hf := it_pos h hf
          refine a_iload (pc := 47) (j := 3) F dX10_wordCode_47 rfl ?_
          obtain rfl := Option.some.inj hf
          exact hret _ _ _ _ (Nat.zero_le _) (Nat.zero_le _) rfl dX10_wordCode_49

abbrev wX10_add : List Cond := Cond.code yX10_add cX10_add 4 none :: WALL
def m_X10_add (n : Nat) (v0 : St) (x1 : Int32) (x2 : Int32) (x3 : Int32) : Option (St) :=
(if 401 ≤ (v0 3 0) then
some v0
else
(if ix (v0 3 0) 401 then nm (su v0 0 ((v0 3 0)).toNatClampNeg x1) (fun u2 =>
(if ix (u2 3 0) 401 then nm (su u2 1 ((u2 3 0)).toNatClampNeg x2) (fun u4 =>
(if ix (u4 3 0) 401 then nm (su u4 2 ((u4 3 0)).toNatClampNeg x3) (fun u6 =>
nm (su u6 3 0 ((u6 3 0) + 1)) (fun u7 =>
some u7)) else none)) else none)) else none))
set_option maxHeartbeats 4000000 in
set_option maxRecDepth 100000 in
theorem c_X10_add (l : Launch) (D : va_G) (y : Nat → ClassId) (ek : EK) (n : Nat) (a0 : Nat → Nat) (v0 : St) (x1 : Int32) (x2 : Int32) (x3 : Int32) (res : St) (hf : m_X10_add n v0 x1 x2 x3 = some res) : CV l yX10_add wX10_add { frames := 0, cells := 0, slots := 0, locals := 0 } D y ek [.ref (a0 0), .int x1, .int x2, .int x3] [bX10 y a0 v0] [bX10 y a0 res] 0 0 := by
  unfold m_X10_add at hf
  refine cv_of (cc := cX10_add) (maxL := 4) (by decide) rfl rfl (Nat.le_of_ble_eq_true rfl) ?_
  intro p e s m below meth c Q A F hret
  refine a_lv (lv' := [(0, .ref (a0 0)), (1, .int x1), (2, .int x2), (3, .int x3)]) rfl ?_
  refine a_aloadn (pc := 0) (j := 0) F dX10_add_0 rfl rfl ?_
  refine a_get (pc := 1) (kb := 0) (j := 0) (f := 3) F iW_X10 rfl rfl rfl (by decide) (tl q1_47) (fun _ h => h) rfl dX10_add_1 ?_
  refine a_aloadn (pc := 4) (j := 0) F dX10_add_4 rfl rfl ?_
  refine a_get (pc := 5) (kb := 0) (j := 0) (f := 0) F iW_X10 rfl rfl rfl (by decide) (tl q1_43) (fun _ h => h) rfl dX10_add_5 ?_
  refine a_alen (pc := 8) (kb := 0) (j := 1) (t0 := 0) (v := 401) F rfl rfl rfl rfl dX10_add_8 ?_
  refine a_icmp_ge (pc := 9) (tgt := 52) F dX10_add_9 (by decide) (fun h => ?_) (fun h => ?_)
  · replace hf := it_pos h hf
    obtain rfl := Option.some.inj hf
    exact hret _ _ _ _ (Nat.zero_le _) (Nat.zero_le _) dX10_add_52
  · replace hf := it_neg h hf
    refine a_aloadn (pc := 12) (j := 0) F dX10_add_12 rfl rfl ?_
    refine a_get (pc := 13) (kb := 0) (j := 0) (f := 0) F iW_X10 rfl rfl rfl (by decide) (tl q1_43) (fun _ h => h) rfl dX10_add_13 ?_
    refine a_aloadn (pc := 16) (j := 0) F dX10_add_16 rfl rfl ?_
    refine a_get (pc := 17) (kb := 0) (j := 0) (f := 3) F iW_X10 rfl rfl rfl (by decide) (tl q1_47) (fun _ h => h) rfl dX10_add_17 ?_
    refine a_iloadn (pc := 20) (j := 1) F dX10_add_20 rfl rfl ?_
    obtain ⟨h1, hf⟩ := gd_some hf
    obtain ⟨u2, eu2, hf⟩ := nm_some hf
    refine a_iast (pc := 21) (kb := 0) (j := 1) (bs' := [bX10 y a0 u2]) F rfl rfl h1 (by rw [eu2]; rfl) dX10_add_21 ?_
    refine a_aloadn (pc := 22) (j := 0) F dX10_add_22 rfl rfl ?_
    refine a_get (pc := 23) (kb := 0) (j := 0) (f := 1) F iW_X10 rfl rfl rfl (by decide) (tl q1_45) (fun _ h => h) rfl dX10_add_23 ?_
    refine a_aloadn (pc := 26) (j := 0) F dX10_add_26 rfl rfl ?_
    refine a_get (pc := 27) (kb := 0) (j := 0) (f := 3) F iW_X10 rfl rfl rfl (by decide) (tl q1_47) (fun _ h => h) rfl dX10_add_27 ?_
    refine a_iloadn (pc := 30) (j := 2) F dX10_add_30 rfl rfl ?_
    obtain ⟨h3, hf⟩ := gd_some hf
    obtain ⟨u4, eu4, hf⟩ := nm_some hf
    refine a_iast (pc := 31) (kb := 0) (j := 2) (bs' := [bX10 y a0 u4]) F rfl rfl h3 (by rw [eu4]; rfl) dX10_add_31 ?_
    refine a_aloadn (pc := 32) (j := 0) F dX10_add_32 rfl rfl ?_
    refine a_get (pc := 33) (kb := 0) (j := 0) (f := 2) F iW_X10 rfl rfl rfl (by decide) (tl q1_46) (fun _ h => h) rfl dX10_add_33 ?_
    refine a_aloadn (pc := 36) (j := 0) F dX10_add_36 rfl rfl ?_
    refine a_get (pc := 37) (kb := 0) (j := 0) (f := 3) F iW_X10 rfl rfl rfl (by decide) (tl q1_47) (fun _ h => h) rfl dX10_add_37 ?_
    refine a_iloadn (pc := 40) (j := 3) F dX10_add_40 rfl rfl ?_
    obtain ⟨h5, hf⟩ := gd_some hf
    obtain ⟨u6, eu6, hf⟩ := nm_some hf
    refine a_iast (pc := 41) (kb := 0) (j := 3) (bs' := [bX10 y a0 u6]) F rfl rfl h5 (by rw [eu6]; rfl) dX10_add_41 ?_
    refine a_aloadn (pc := 42) (j := 0) F dX10_add_42 rfl rfl ?_
    refine a_dup (pc := 43) F dX10_add_43 rfl ?_
    refine a_get (pc := 44) (kb := 0) (j := 0) (f := 3) F iW_X10 rfl rfl rfl (by decide) (tl q1_47) (fun _ h => h) rfl dX10_add_44 ?_
    refine a_iconst (pc := 47) F dX10_add_47 kc_1 ?_
    refine a_iadd (pc := 48) F dX10_add_48 ?_
    obtain ⟨u7, eu7, hf⟩ := nm_some hf
    refine a_put (pc := 49) (kb := 0) (j := 0) (f := 3) (ty := .int) (bs' := [bX10 y a0 u7]) F iW_X10 rfl rfl rfl (by decide) (tl q1_47) (fun _ h => h) tyX10 tyX10_ok nmX10 rfl rfl rfl rfl (Nat.le_of_ble_eq_true rfl) (by rw [eu7]; rfl) dX10_add_49 ?_
    obtain rfl := Option.some.inj hf
    exact hret _ _ _ _ (Nat.zero_le _) (Nat.zero_le _) dX10_add_52

abbrev wX10_isDigit : List Cond := Cond.code yX10_isDigit cX10_isDigit 1 (some .boolean) :: WALL
def m_X10_isDigit (n : Nat) (x0 : Int32) : Option (Int32) :=
jn (fun (t1 : Unit) =>
some 0) (fun (K1 : Unit → Option (Int32)) =>
(if x0 < 48 then
K1 ()
else
(if 57 < x0 then
K1 ()
else
some 1)))
set_option maxHeartbeats 4000000 in
set_option maxRecDepth 100000 in
theorem c_X10_isDigit (l : Launch) (D : va_G) (y : Nat → ClassId) (ek : EK) (n : Nat) (x0 : Int32) (res : Int32) (hf : m_X10_isDigit n x0 = some res) : CI l yX10_isDigit wX10_isDigit { frames := 0, cells := 0, slots := 0, locals := 0 } D y ek [.int x0] [] (res) [] 0 0 := by
  unfold m_X10_isDigit at hf
  refine ci_of (cc := cX10_isDigit) (maxL := 1) (by decide) rfl rfl (Nat.le_of_ble_eq_true rfl) ?_
  intro p e s m below meth c Q A F hret
  refine a_lv (lv' := [(0, .int x0)]) rfl ?_
  refine a_iloadn (pc := 0) (j := 0) F dX10_isDigit_0 rfl rfl ?_
  refine a_bipush (pc := 1) F dX10_isDigit_1 kb_48 ?_
  refine a_jn 16 (fun (t1 : Unit) => []) (fun (t1 : Unit) => []) (fun (t1 : Unit) => []) hf (fun t1 hf => ?_) (fun K1 hK1 hf => ?_)
  · try dsimp only at hf ⊢
    refine a_iconst (pc := 16) F dX10_isDigit_16 kc_0 ?_
    obtain rfl := Option.some.inj hf
    exact hret _ _ _ _ (Nat.zero_le _) (Nat.zero_le _) (z_nar (Or.inl rfl)) dX10_isDigit_17
  · try dsimp only at hf
    refine a_icmp_lt (pc := 3) (tgt := 16) F dX10_isDigit_3 (by decide) (fun h => ?_) (fun h => ?_)
    · replace hf := it_pos h hf
      refine a_sub [] rfl ?_
      exact hK1 () hf
    · replace hf := it_neg h hf
      refine a_iloadn (pc := 6) (j := 0) F dX10_isDigit_6 rfl rfl ?_
      refine a_bipush (pc := 7) F dX10_isDigit_7 kb_57 ?_
      refine a_icmp_gt (pc := 9) (tgt := 16) F dX10_isDigit_9 (by decide) (fun h => ?_) (fun h => ?_)
      · replace hf := it_pos h hf
        refine a_sub [] rfl ?_
        exact hK1 () hf
      · replace hf := it_neg h hf
        refine a_iconst (pc := 12) F dX10_isDigit_12 kc_1 ?_
        refine a_goto (pc := 13) (tgt := 17) F dX10_isDigit_13 (by decide) ?_
        obtain rfl := Option.some.inj hf
        exact hret _ _ _ _ (Nat.zero_le _) (Nat.zero_le _) (z_nar (Or.inr rfl)) dX10_isDigit_17

abbrev wX10_digitsEnd : List Cond := Cond.code yX10_digitsEnd cX10_digitsEnd 4 (some .int) :: WALL
def m_X10_digitsEnd (n : Nat) (v0 : St) (x1 : Int32) (x2 : Int32) : Option (Int32) :=
nm (x1 + 1) (fun x3_1 =>
bd (lp (fun (rc3 : Int32 → Option (Int32)) (x3l : Int32) =>
(if x2 ≤ x3l then
some x3l
else
(if ix x3l 400 then bd (m_X10_isDigit n (v0 0 (x3l).toNatClampNeg)) (fun t5 =>
(if t5 = 0 then
some x3l
else
rc3 (x3l + 1))) else none))) n x3_1) (fun (t2 : Int32) =>
some t2))
set_option maxHeartbeats 4000000 in
set_option maxRecDepth 100000 in
theorem c_X10_digitsEnd (l : Launch) (D : va_G) (y : Nat → ClassId) (ek : EK) (n : Nat) (a0 : Nat → Nat) (v0 : St) (x1 : Int32) (x2 : Int32) (res : Int32) (hf : m_X10_digitsEnd n v0 x1 x2 = some res) : CI l yX10_digitsEnd wX10_digitsEnd { frames := 1, cells := 0, slots := 0, locals := 20 } D y ek [.ref (a0 0), .int x1, .int x2] [bAB400 y a0 v0] (res) [bAB400 y a0 v0] 0 0 := by
  unfold m_X10_digitsEnd at hf
  refine ci_of (cc := cX10_digitsEnd) (maxL := 4) (by decide) rfl rfl (Nat.le_of_ble_eq_true rfl) ?_
  intro p e s m below meth c Q A F hret
  refine a_lv (lv' := [(0, .ref (a0 0)), (1, .int x1), (2, .int x2)]) rfl ?_
  refine a_iloadn (pc := 0) (j := 1) F dX10_digitsEnd_0 rfl rfl ?_
  refine a_iconst (pc := 1) F dX10_digitsEnd_1 kc_1 ?_
  refine a_iadd (pc := 2) F dX10_digitsEnd_2 ?_
  obtain ⟨x3_1, ex3_1, hf⟩ := nm_some hf
  refine a_nmi ex3_1 ?_
  refine a_istoren (pc := 3) (lv' := [(0, .ref (a0 0)), (1, .int x1), (2, .int x2), (3, .int x3_1)]) F [1, 2, 3, 0] dX10_digitsEnd_3 rfl (by decide) rfl ?_
  refine a_join 24 (fun (t2 : Int32) => [(3, .int t2)]) (fun (t2 : Int32) => []) (fun (t2 : Int32) => [bAB400 y a0 v0]) hf (fun t2 hf => ?_) (fun t2 hf J2 => ?_)
  · try dsimp only at hf ⊢
    refine a_iloadn (pc := 24) (j := 0) F dX10_digitsEnd_24 rfl rfl ?_
    obtain rfl := Option.some.inj hf
    exact hret _ _ _ _ (Nat.zero_le _) (Nat.zero_le _) rfl dX10_digitsEnd_25
  · refine a_sub [0, 2, 3] rfl ?_
    refine a_loop 4 (fun (x3l : Int32) => [(0, .ref (a0 0)), (2, .int x2), (3, .int x3l)]) (fun (x3l : Int32) => [bAB400 y a0 v0]) (fun rc3 x3l ih3 hf => ?_) hf rfl rfl
    try dsimp only at hf ⊢
    refine a_iloadn (pc := 4) (j := 2) F dX10_digitsEnd_4 rfl rfl ?_
    refine a_iloadn (pc := 5) (j := 1) F dX10_digitsEnd_5 rfl rfl ?_
    refine a_icmp_ge (pc := 6) (tgt := 24) F dX10_digitsEnd_6 (by decide) (fun h => ?_) (fun h => ?_)
    · replace hf := it_pos h hf
      refine a_sub [2] rfl ?_
      obtain rfl := Option.some.inj hf
      exact J2
    · replace hf := it_neg h hf
      refine a_aloadn (pc := 9) (j := 0) F dX10_digitsEnd_9 rfl rfl ?_
      refine a_iloadn (pc := 10) (j := 2) F dX10_digitsEnd_10 rfl rfl ?_
      obtain ⟨h4, hf⟩ := gd_some hf
      refine a_bald (pc := 11) (kb := 0) (j := 0) F rfl rfl h4 dX10_digitsEnd_11 ?_
      obtain ⟨t5, ht5, hf⟩ := bd_some hf
      refine a_callS (pc := 12) (bs' := [bAB400 y a0 v0]) F [] (c_X10_isDigit l D y ek n  _ _ ht5) (va_cwS 1 F.1.2.2.2.2 (gS q3_176 q3_177 q1_2 q3_178) rfl rfl rfl (by decide +kernel) ⟨Nat.le_of_ble_eq_true rfl, Nat.le_of_ble_eq_true rfl⟩) (by decide) rfl rfl rfl rfl rfl rfl (Nat.le_of_ble_eq_true rfl) ⟨Nat.zero_le _, Nat.zero_le _⟩ dX10_digitsEnd_12 ?_
      refine a_if_eq (pc := 15) (tgt := 24) F dX10_digitsEnd_15 (by decide) (fun h => ?_) (fun h => ?_)
      · replace hf := it_pos h hf
        refine a_sub [2] rfl ?_
        obtain rfl := Option.some.inj hf
        exact J2
      · replace hf := it_neg h hf
        refine a_iinc (pc := 18) (j := 2) (v := (x3l + 1)) (lv' := [(0, .ref (a0 0)), (2, .int x2), (3, .int (x3l + 1))]) F [1, 2, 0] dX10_digitsEnd_18 rfl ki_1 (by decide) rfl ?_
        refine a_goto (pc := 21) (tgt := 4) F dX10_digitsEnd_21 (by decide) ?_
        exact ih3 (x3l + 1) hf

abbrev wX10_valueOf : List Cond := Cond.code yX10_valueOf cX10_valueOf 5 (some .int) :: WALL
def m_X10_valueOf (n : Nat) (v0 : St) (x1 : Int32) (x2 : Int32) : Option (Int32) :=
lp (fun (rc1 : Int32 × Int32 → Option (Int32)) (x1l : Int32 × Int32) =>
(if x2 ≤ x1l.2 then
some x1l.1
else
(if ix x1l.2 400 then nm (((10 * x1l.1) + (v0 0 (x1l.2).toNatClampNeg)) - 48) (fun x3_3 =>
rc1 (x3_3, (x1l.2 + 1))) else none))) n (0, x1)
set_option maxHeartbeats 4000000 in
set_option maxRecDepth 100000 in
theorem c_X10_valueOf (l : Launch) (D : va_G) (y : Nat → ClassId) (ek : EK) (n : Nat) (a0 : Nat → Nat) (v0 : St) (x1 : Int32) (x2 : Int32) (res : Int32) (hf : m_X10_valueOf n v0 x1 x2 = some res) : CI l yX10_valueOf wX10_valueOf { frames := 0, cells := 0, slots := 0, locals := 0 } D y ek [.ref (a0 0), .int x1, .int x2] [bAB400 y a0 v0] (res) [bAB400 y a0 v0] 0 0 := by
  unfold m_X10_valueOf at hf
  refine ci_of (cc := cX10_valueOf) (maxL := 5) (by decide) rfl rfl (Nat.le_of_ble_eq_true rfl) ?_
  intro p e s m below meth c Q A F hret
  refine a_lv (lv' := [(0, .ref (a0 0)), (1, .int x1), (2, .int x2)]) rfl ?_
  refine a_iconst (pc := 0) F dX10_valueOf_0 kc_0 ?_
  refine a_istoren (pc := 1) (lv' := [(0, .ref (a0 0)), (1, .int x1), (2, .int x2), (3, .int 0)]) F [1, 2, 3, 0] dX10_valueOf_1 rfl (by decide) rfl ?_
  refine a_iloadn (pc := 2) (j := 1) F dX10_valueOf_2 rfl rfl ?_
  refine a_istore (pc := 3) (lv' := [(0, .ref (a0 0)), (1, .int x1), (2, .int x2), (3, .int 0), (4, .int x1)]) F [1, 2, 3, 4, 0] dX10_valueOf_3 (by decide) rfl ?_
  refine a_sub [0, 2, 3, 4] rfl ?_
  refine a_loop 5 (fun (x1l : Int32 × Int32) => [(0, .ref (a0 0)), (2, .int x2), (3, .int x1l.1), (4, .int x1l.2)]) (fun (x1l : Int32 × Int32) => [bAB400 y a0 v0]) (fun rc1 x1l ih1 hf => ?_) hf rfl rfl
  try dsimp only at hf ⊢
  refine a_iload (pc := 5) (j := 3) F dX10_valueOf_5 rfl ?_
  refine a_iloadn (pc := 7) (j := 1) F dX10_valueOf_7 rfl rfl ?_
  refine a_icmp_ge (pc := 8) (tgt := 30) F dX10_valueOf_8 (by decide) (fun h => ?_) (fun h => ?_)
  · replace hf := it_pos h hf
    refine a_iloadn (pc := 30) (j := 2) F dX10_valueOf_30 rfl rfl ?_
    obtain rfl := Option.some.inj hf
    exact hret _ _ _ _ (Nat.zero_le _) (Nat.zero_le _) rfl dX10_valueOf_31
  · replace hf := it_neg h hf
    refine a_bipush (pc := 11) F dX10_valueOf_11 kb_10 ?_
    refine a_iloadn (pc := 13) (j := 2) F dX10_valueOf_13 rfl rfl ?_
    refine a_imul (pc := 14) F dX10_valueOf_14 ?_
    refine a_aloadn (pc := 15) (j := 0) F dX10_valueOf_15 rfl rfl ?_
    refine a_iload (pc := 16) (j := 3) F dX10_valueOf_16 rfl ?_
    obtain ⟨h2, hf⟩ := gd_some hf
    refine a_bald (pc := 18) (kb := 0) (j := 0) F rfl rfl h2 dX10_valueOf_18 ?_
    refine a_iadd (pc := 19) F dX10_valueOf_19 ?_
    refine a_bipush (pc := 20) F dX10_valueOf_20 kb_48 ?_
    refine a_isub (pc := 22) F dX10_valueOf_22 ?_
    obtain ⟨x3_3, ex3_3, hf⟩ := nm_some hf
    refine a_nmi ex3_3 ?_
    refine a_istoren (pc := 23) (lv' := [(0, .ref (a0 0)), (2, .int x2), (3, .int x3_3), (4, .int x1l.2)]) F [1, 2, 0, 3] dX10_valueOf_23 rfl (by decide) rfl ?_
    refine a_iinc (pc := 24) (j := 3) (v := (x1l.2 + 1)) (lv' := [(0, .ref (a0 0)), (2, .int x2), (3, .int x3_3), (4, .int (x1l.2 + 1))]) F [1, 2, 3, 0] dX10_valueOf_24 rfl ki_1 (by decide) rfl ?_
    refine a_goto (pc := 27) (tgt := 5) F dX10_valueOf_27 (by decide) ?_
    exact ih1 (x3_3, (x1l.2 + 1)) hf

abbrev wX10_addFrom : List Cond := Cond.code yX10_addFrom cX10_addFrom 7 (some .int) :: WALL
def m_X10_addFrom (n : Nat) (v0 : St) (v1 : St) (x2 : Int32) (x3 : Int32) : Option (Int32 × St) :=
(if ix x2 400 then nm ((v1 0 (x2).toNatClampNeg) &&& 255) (fun x4_2 =>
bd (m_X10_isLetter n x4_2) (fun t3 =>
(if t3 = 0 then
bd (m_X10_isDigit n x4_2) (fun t4 =>
(if t4 = 0 then
bd ((if x4_2 = 32 then
some v0
else
bd (m_X10_add n v0 x4_2 0 x2) (fun t6 =>
some t6))) (fun (t5 : St) =>
some ((x2 + 1), t5))
else
bd (m_X10_digitsEnd n v1 x2 x3) (fun t7 =>
bd ((if (t7 - x2) ≤ 3 then
some 0
else
some 1)) (fun (t8 : Int32) =>
bd ((if t8 = 0 then
some 256
else
some 257)) (fun (t9 : Int32) =>
bd ((if t8 = 0 then
bd (m_X10_valueOf n v1 x2 t7) (fun t12 =>
some t12)
else
some 0)) (fun (t10 : Int32) =>
bd (m_X10_add n v0 t9 t10 x2) (fun t11 =>
some (t7, t11))))))))
else
bd (m_X10_lettersEnd n v1 x2 x3) (fun t13 =>
bd (m_X10_wordCode n v1 x2 t13) (fun t14 =>
bd (m_X10_add n v0 t14 0 x2) (fun t15 =>
some (t13, t15))))))) else none)
set_option maxHeartbeats 4000000 in
set_option maxRecDepth 100000 in
theorem c_X10_addFrom (l : Launch) (D : va_G) (y : Nat → ClassId) (ek : EK) (n : Nat) (a0 : Nat → Nat) (a1 : Nat → Nat) (v0 : St) (v1 : St) (x2 : Int32) (x3 : Int32) (res : Int32 × St) (hf : m_X10_addFrom n v0 v1 x2 x3 = some res) : CI l yX10_addFrom wX10_addFrom { frames := 5, cells := 0, slots := 0, locals := 112 } D y ek [.ref (a0 0), .ref (a1 0), .int x2, .int x3] [bX10 y a0 v0, bAB400 y a1 v1] (res.1) [bX10 y a0 res.2, bAB400 y a1 v1] 0 0 := by
  unfold m_X10_addFrom at hf
  refine ci_of (cc := cX10_addFrom) (maxL := 7) (by decide) rfl rfl (Nat.le_of_ble_eq_true rfl) ?_
  intro p e s m below meth c Q A F hret
  refine a_lv (lv' := [(0, .ref (a0 0)), (1, .ref (a1 0)), (2, .int x2), (3, .int x3)]) rfl ?_
  refine a_aloadn (pc := 0) (j := 1) F dX10_addFrom_0 rfl rfl ?_
  refine a_iloadn (pc := 1) (j := 2) F dX10_addFrom_1 rfl rfl ?_
  obtain ⟨h1, hf⟩ := gd_some hf
  refine a_bald (pc := 2) (kb := 1) (j := 0) F rfl rfl h1 dX10_addFrom_2 ?_
  refine a_sipush (pc := 3) F dX10_addFrom_3 ks_255 ?_
  refine a_iand (pc := 6) F dX10_addFrom_6 ?_
  obtain ⟨x4_2, ex4_2, hf⟩ := nm_some hf
  refine a_nmi ex4_2 ?_
  refine a_istore (pc := 7) (lv' := [(0, .ref (a0 0)), (1, .ref (a1 0)), (2, .int x2), (3, .int x3), (4, .int x4_2)]) F [1, 2, 3, 4, 0] dX10_addFrom_7 (by decide) rfl ?_
  refine a_iload (pc := 9) (j := 4) F dX10_addFrom_9 rfl ?_
  obtain ⟨t3, ht3, hf⟩ := bd_some hf
  refine a_callS (pc := 11) (bs' := [bX10 y a0 v0, bAB400 y a1 v1]) F [] (c_X10_isLetter l D y ek n  _ _ ht3) (va_cwS 1 F.1.2.2.2.2 (gS q3_114 q3_115 q1_2 q3_116) rfl rfl rfl (by decide +kernel) ⟨Nat.le_of_ble_eq_true rfl, Nat.le_of_ble_eq_true rfl⟩) (by decide) rfl rfl rfl rfl rfl rfl (Nat.le_of_ble_eq_true rfl) ⟨Nat.zero_le _, Nat.zero_le _⟩ dX10_addFrom_11 ?_
  refine a_if_eq (pc := 14) (tgt := 41) F dX10_addFrom_14 (by decide) (fun h => ?_) (fun h => ?_)
  · replace hf := it_pos h hf
    refine a_iload (pc := 41) (j := 4) F dX10_addFrom_41 rfl ?_
    obtain ⟨t4, ht4, hf⟩ := bd_some hf
    refine a_callS (pc := 43) (bs' := [bX10 y a0 v0, bAB400 y a1 v1]) F [] (c_X10_isDigit l D y ek n  _ _ ht4) (va_cwS 1 F.1.2.2.2.2 (gS q3_176 q3_177 q1_2 q3_178) rfl rfl rfl (by decide +kernel) ⟨Nat.le_of_ble_eq_true rfl, Nat.le_of_ble_eq_true rfl⟩) (by decide) rfl rfl rfl rfl rfl rfl (Nat.le_of_ble_eq_true rfl) ⟨Nat.zero_le _, Nat.zero_le _⟩ dX10_addFrom_43 ?_
    refine a_if_eq (pc := 46) (tgt := 110) F dX10_addFrom_46 (by decide) (fun h => ?_) (fun h => ?_)
    · replace hf := it_pos h hf
      refine a_iload (pc := 110) (j := 4) F dX10_addFrom_110 rfl ?_
      refine a_bipush (pc := 112) F dX10_addFrom_112 kb_32 ?_
      refine a_join 125 (fun (t5 : St) => [(2, .int x2)]) (fun (t5 : St) => []) (fun (t5 : St) => [bX10 y a0 t5, bAB400 y a1 v1]) hf (fun t5 hf => ?_) (fun t5 hf J5 => ?_)
      · try dsimp only at hf ⊢
        refine a_iloadn (pc := 125) (j := 0) F dX10_addFrom_125 rfl rfl ?_
        refine a_iconst (pc := 126) F dX10_addFrom_126 kc_1 ?_
        refine a_iadd (pc := 127) F dX10_addFrom_127 ?_
        obtain rfl := Option.some.inj hf
        exact hret _ _ _ _ (Nat.zero_le _) (Nat.zero_le _) rfl dX10_addFrom_128
      · refine a_icmp_eq (pc := 114) (tgt := 125) F dX10_addFrom_114 (by decide) (fun h => ?_) (fun h => ?_)
        · replace hf := it_pos h hf
          refine a_sub [2] rfl ?_
          obtain rfl := Option.some.inj hf
          exact J5
        · replace hf := it_neg h hf
          refine a_aloadn (pc := 117) (j := 0) F dX10_addFrom_117 rfl rfl ?_
          refine a_iload (pc := 118) (j := 4) F dX10_addFrom_118 rfl ?_
          refine a_iconst (pc := 120) F dX10_addFrom_120 kc_0 ?_
          refine a_iloadn (pc := 121) (j := 2) F dX10_addFrom_121 rfl rfl ?_
          obtain ⟨t6, ht6, hf⟩ := bd_some hf
          refine a_callVv (pc := 122) (bs' := [bX10 y a0 t6, bAB400 y a1 v1]) (kb := 0) (j := 0) F [0] (c_X10_add l D y ek n a0 _ _ _ _ _ ht6) (cwV 3 F.1.2.2.2.2 (gV q3_172 q3_174 qs_6 q1_2 q3_175) rfl rfl rfl (by decide +kernel) ⟨Nat.le_of_ble_eq_true rfl, Nat.le_of_ble_eq_true rfl⟩) rfl rfl rfl rfl (by decide) rfl rfl rfl rfl rfl rfl (Nat.le_of_ble_eq_true rfl) ⟨Nat.zero_le _, Nat.zero_le _⟩ dX10_addFrom_122 ?_
          refine a_sub [2] rfl ?_
          obtain rfl := Option.some.inj hf
          exact J5
    · replace hf := it_neg h hf
      refine a_aloadn (pc := 49) (j := 1) F dX10_addFrom_49 rfl rfl ?_
      refine a_iloadn (pc := 50) (j := 2) F dX10_addFrom_50 rfl rfl ?_
      refine a_iloadn (pc := 51) (j := 3) F dX10_addFrom_51 rfl rfl ?_
      obtain ⟨t7, ht7, hf⟩ := bd_some hf
      refine a_callS (pc := 52) (bs' := [bX10 y a0 v0, bAB400 y a1 v1]) F [1] (c_X10_digitsEnd l D y ek n a1 _ _ _ _ ht7) (va_cwS 3 F.1.2.2.2.2 (gS q3_179 q3_180 q1_2 q3_181) rfl rfl rfl (by decide +kernel) ⟨Nat.le_of_ble_eq_true rfl, Nat.le_of_ble_eq_true rfl⟩) (by decide) rfl rfl rfl rfl rfl rfl (Nat.le_of_ble_eq_true rfl) ⟨Nat.zero_le _, Nat.zero_le _⟩ dX10_addFrom_52 ?_
      refine a_istore (pc := 55) (lv' := [(0, .ref (a0 0)), (1, .ref (a1 0)), (2, .int x2), (3, .int x3), (4, .int x4_2), (5, .int t7)]) F [1, 2, 3, 4, 5, 0] dX10_addFrom_55 (by decide) rfl ?_
      refine a_iload (pc := 57) (j := 5) F dX10_addFrom_57 rfl ?_
      refine a_iloadn (pc := 59) (j := 2) F dX10_addFrom_59 rfl rfl ?_
      refine a_isub (pc := 60) F dX10_addFrom_60 ?_
      refine a_iconst (pc := 61) F dX10_addFrom_61 kc_3 ?_
      refine a_join 70 (fun (t8 : Int32) => [(0, .ref (a0 0)), (1, .ref (a1 0)), (2, .int x2), (5, .int t7)]) (fun (t8 : Int32) => [.int t8]) (fun (t8 : Int32) => [bX10 y a0 v0, bAB400 y a1 v1]) hf (fun t8 hf => ?_) (fun t8 hf J8 => ?_)
      · try dsimp only at hf ⊢
        refine a_istore (pc := 70) (lv' := [(0, .ref (a0 0)), (1, .ref (a1 0)), (2, .int x2), (5, .int t7), (6, .int t8)]) F [1, 2, 3, 4, 0] dX10_addFrom_70 (by decide) rfl ?_
        refine a_aloadn (pc := 72) (j := 0) F dX10_addFrom_72 rfl rfl ?_
        refine a_iload (pc := 73) (j := 4) F dX10_addFrom_73 rfl ?_
        refine a_join 87 (fun (t9 : Int32) => [(1, .ref (a1 0)), (2, .int x2), (5, .int t7), (6, .int t8)]) (fun (t9 : Int32) => [.int t9, .ref (a0 0)]) (fun (t9 : Int32) => [bX10 y a0 v0, bAB400 y a1 v1]) hf (fun t9 hf => ?_) (fun t9 hf J9 => ?_)
        · try dsimp only at hf ⊢
          refine a_iload (pc := 87) (j := 3) F dX10_addFrom_87 rfl ?_
          refine a_join 103 (fun (t10 : Int32) => [(2, .int x2), (5, .int t7)]) (fun (t10 : Int32) => [.int t10, .int t9, .ref (a0 0)]) (fun (t10 : Int32) => [bX10 y a0 v0, bAB400 y a1 v1]) hf (fun t10 hf => ?_) (fun t10 hf J10 => ?_)
          · try dsimp only at hf ⊢
            refine a_iloadn (pc := 103) (j := 0) F dX10_addFrom_103 rfl rfl ?_
            obtain ⟨t11, ht11, hf⟩ := bd_some hf
            refine a_callVv (pc := 104) (bs' := [bX10 y a0 t11, bAB400 y a1 v1]) (kb := 0) (j := 0) F [0] (c_X10_add l D y ek n a0 _ _ _ _ _ ht11) (cwV 3 F.1.2.2.2.2 (gV q3_172 q3_174 qs_6 q1_2 q3_175) rfl rfl rfl (by decide +kernel) ⟨Nat.le_of_ble_eq_true rfl, Nat.le_of_ble_eq_true rfl⟩) rfl rfl rfl rfl (by decide) rfl rfl rfl rfl rfl rfl (Nat.le_of_ble_eq_true rfl) ⟨Nat.zero_le _, Nat.zero_le _⟩ dX10_addFrom_104 ?_
            refine a_iload (pc := 107) (j := 1) F dX10_addFrom_107 rfl ?_
            obtain rfl := Option.some.inj hf
            exact hret _ _ _ _ (Nat.zero_le _) (Nat.zero_le _) rfl dX10_addFrom_109
          · refine a_if_eq (pc := 89) (tgt := 96) F dX10_addFrom_89 (by decide) (fun h => ?_) (fun h => ?_)
            · replace hf := it_pos h hf
              refine a_aloadn (pc := 96) (j := 0) F dX10_addFrom_96 rfl rfl ?_
              refine a_iloadn (pc := 97) (j := 1) F dX10_addFrom_97 rfl rfl ?_
              refine a_iload (pc := 98) (j := 2) F dX10_addFrom_98 rfl ?_
              obtain ⟨t12, ht12, hf⟩ := bd_some hf
              refine a_callS (pc := 100) (bs' := [bX10 y a0 v0, bAB400 y a1 v1]) F [1] (c_X10_valueOf l D y ek n a1 _ _ _ _ ht12) (va_cwS 3 F.1.2.2.2.2 (gS q3_182 q3_183 q1_2 q3_184) rfl rfl rfl (by decide +kernel) ⟨Nat.le_of_ble_eq_true rfl, Nat.le_of_ble_eq_true rfl⟩) (by decide) rfl rfl rfl rfl rfl rfl (Nat.le_of_ble_eq_true rfl) ⟨Nat.zero_le _, Nat.zero_le _⟩ dX10_addFrom_100 ?_
              refine a_sub [1, 2] rfl ?_
              obtain rfl := Option.some.inj hf
              exact J10
            · replace hf := it_neg h hf
              refine a_iconst (pc := 92) F dX10_addFrom_92 kc_0 ?_
              refine a_goto (pc := 93) (tgt := 103) F dX10_addFrom_93 (by decide) ?_
              refine a_sub [1, 2] rfl ?_
              obtain rfl := Option.some.inj hf
              exact J10
        · refine a_if_eq (pc := 75) (tgt := 84) F dX10_addFrom_75 (by decide) (fun h => ?_) (fun h => ?_)
          · replace hf := it_pos h hf
            refine a_sipush (pc := 84) F dX10_addFrom_84 ks_256 ?_
            refine a_sub [1, 2, 3, 4] rfl ?_
            obtain rfl := Option.some.inj hf
            exact J9
          · replace hf := it_neg h hf
            refine a_sipush (pc := 78) F dX10_addFrom_78 ks_257 ?_
            refine a_goto (pc := 81) (tgt := 87) F dX10_addFrom_81 (by decide) ?_
            refine a_sub [1, 2, 3, 4] rfl ?_
            obtain rfl := Option.some.inj hf
            exact J9
      · refine a_icmp_le (pc := 62) (tgt := 69) F dX10_addFrom_62 (by decide) (fun h => ?_) (fun h => ?_)
        · replace hf := it_pos h hf
          refine a_iconst (pc := 69) F dX10_addFrom_69 kc_0 ?_
          refine a_sub [0, 1, 2, 5] rfl ?_
          obtain rfl := Option.some.inj hf
          exact J8
        · replace hf := it_neg h hf
          refine a_iconst (pc := 65) F dX10_addFrom_65 kc_1 ?_
          refine a_goto (pc := 66) (tgt := 70) F dX10_addFrom_66 (by decide) ?_
          refine a_sub [0, 1, 2, 5] rfl ?_
          obtain rfl := Option.some.inj hf
          exact J8
  · replace hf := it_neg h hf
    refine a_aloadn (pc := 17) (j := 1) F dX10_addFrom_17 rfl rfl ?_
    refine a_iloadn (pc := 18) (j := 2) F dX10_addFrom_18 rfl rfl ?_
    refine a_iloadn (pc := 19) (j := 3) F dX10_addFrom_19 rfl rfl ?_
    obtain ⟨t13, ht13, hf⟩ := bd_some hf
    refine a_callS (pc := 20) (bs' := [bX10 y a0 v0, bAB400 y a1 v1]) F [1] (c_X10_lettersEnd l D y ek n a1 _ _ _ _ ht13) (va_cwS 3 F.1.2.2.2.2 (gS q3_117 q3_118 q1_2 q3_119) rfl rfl rfl (by decide +kernel) ⟨Nat.le_of_ble_eq_true rfl, Nat.le_of_ble_eq_true rfl⟩) (by decide) rfl rfl rfl rfl rfl rfl (Nat.le_of_ble_eq_true rfl) ⟨Nat.zero_le _, Nat.zero_le _⟩ dX10_addFrom_20 ?_
    refine a_istore (pc := 23) (lv' := [(0, .ref (a0 0)), (1, .ref (a1 0)), (2, .int x2), (3, .int x3), (4, .int x4_2), (5, .int t13)]) F [1, 2, 3, 4, 5, 0] dX10_addFrom_23 (by decide) rfl ?_
    refine a_aloadn (pc := 25) (j := 0) F dX10_addFrom_25 rfl rfl ?_
    refine a_aloadn (pc := 26) (j := 1) F dX10_addFrom_26 rfl rfl ?_
    refine a_iloadn (pc := 27) (j := 2) F dX10_addFrom_27 rfl rfl ?_
    refine a_iload (pc := 28) (j := 5) F dX10_addFrom_28 rfl ?_
    obtain ⟨t14, ht14, hf⟩ := bd_some hf
    refine a_callS (pc := 30) (bs' := [bX10 y a0 v0, bAB400 y a1 v1]) F [1] (c_X10_wordCode l D y ek n a1 _ _ _ _ ht14) (va_cwS 3 F.1.2.2.2.2 (gS q3_120 q3_121 q1_2 q3_122) rfl rfl rfl (by decide +kernel) ⟨Nat.le_of_ble_eq_true rfl, Nat.le_of_ble_eq_true rfl⟩) (by decide) rfl rfl rfl rfl rfl rfl (Nat.le_of_ble_eq_true rfl) ⟨Nat.zero_le _, Nat.zero_le _⟩ dX10_addFrom_30 ?_
    refine a_iconst (pc := 33) F dX10_addFrom_33 kc_0 ?_
    refine a_iloadn (pc := 34) (j := 2) F dX10_addFrom_34 rfl rfl ?_
    obtain ⟨t15, ht15, hf⟩ := bd_some hf
    refine a_callVv (pc := 35) (bs' := [bX10 y a0 t15, bAB400 y a1 v1]) (kb := 0) (j := 0) F [0] (c_X10_add l D y ek n a0 _ _ _ _ _ ht15) (cwV 3 F.1.2.2.2.2 (gV q3_172 q3_174 qs_6 q1_2 q3_175) rfl rfl rfl (by decide +kernel) ⟨Nat.le_of_ble_eq_true rfl, Nat.le_of_ble_eq_true rfl⟩) rfl rfl rfl rfl (by decide) rfl rfl rfl rfl rfl rfl (Nat.le_of_ble_eq_true rfl) ⟨Nat.zero_le _, Nat.zero_le _⟩ dX10_addFrom_35 ?_
    refine a_iload (pc := 38) (j := 5) F dX10_addFrom_38 rfl ?_
    obtain rfl := Option.some.inj hf
    exact hret _ _ _ _ (Nat.zero_le _) (Nat.zero_le _) rfl dX10_addFrom_40

abbrev wX10_split : List Cond := Cond.code yX10_split cX10_split 5 none :: WALL
def m_X10_split (n : Nat) (v0 : St) (v1 : St) (x2 : Int32) : Option (St) :=
nm (su v0 3 0 0) (fun u1 =>
bd (lp (fun (rc4 : Int32 × Int32 × St → Option (St)) (x4l : Int32 × Int32 × St) =>
(if x2 ≤ x4l.2.1 then
some x4l.2.2
else
bd ((if x4l.2.1 < x4l.1 then
some (x4l.1, x4l.2.2)
else
bd (m_X10_addFrom n x4l.2.2 v1 x4l.2.1 x2) (fun t6 =>
some (t6.1, t6.2)))) (fun (t5 : Int32 × St) =>
rc4 (t5.1, (x4l.2.1 + 1), t5.2)))) n (0, 0, u1)) (fun (t2 : St) =>
bd (m_X10_add n t2 259 0 x2) (fun t3 =>
some t3)))
set_option maxHeartbeats 4000000 in
set_option maxRecDepth 100000 in
theorem c_X10_split (l : Launch) (D : va_G) (y : Nat → ClassId) (ek : EK) (n : Nat) (a0 : Nat → Nat) (a1 : Nat → Nat) (v0 : St) (v1 : St) (x2 : Int32) (res : St) (hf : m_X10_split n v0 v1 x2 = some res) : CV l yX10_split wX10_split { frames := 6, cells := 0, slots := 0, locals := 138 } D y ek [.ref (a0 0), .ref (a1 0), .int x2] [bX10 y a0 v0, bAB400 y a1 v1] [bX10 y a0 res, bAB400 y a1 v1] 0 0 := by
  unfold m_X10_split at hf
  refine cv_of (cc := cX10_split) (maxL := 5) (by decide) rfl rfl (Nat.le_of_ble_eq_true rfl) ?_
  intro p e s m below meth c Q A F hret
  refine a_lv (lv' := [(0, .ref (a0 0)), (1, .ref (a1 0)), (2, .int x2)]) rfl ?_
  refine a_aloadn (pc := 0) (j := 0) F dX10_split_0 rfl rfl ?_
  refine a_iconst (pc := 1) F dX10_split_1 kc_0 ?_
  obtain ⟨u1, eu1, hf⟩ := nm_some hf
  refine a_put (pc := 2) (kb := 0) (j := 0) (f := 3) (ty := .int) (bs' := [bX10 y a0 u1, bAB400 y a1 v1]) F iW_X10 rfl rfl rfl (by decide) (tl q1_47) (fun _ h => h) tyX10 tyX10_ok nmX10 rfl rfl rfl rfl (Nat.le_of_ble_eq_true rfl) (by rw [eu1]; rfl) dX10_split_2 ?_
  refine a_iconst (pc := 5) F dX10_split_5 kc_0 ?_
  refine a_istoren (pc := 6) (lv' := [(0, .ref (a0 0)), (1, .ref (a1 0)), (2, .int x2), (3, .int 0)]) F [1, 2, 3, 0] dX10_split_6 rfl (by decide) rfl ?_
  refine a_iconst (pc := 7) F dX10_split_7 kc_0 ?_
  refine a_istore (pc := 8) (lv' := [(0, .ref (a0 0)), (1, .ref (a1 0)), (2, .int x2), (3, .int 0), (4, .int 0)]) F [1, 2, 3, 4, 0] dX10_split_8 (by decide) rfl ?_
  refine a_join 37 (fun (t2 : St) => [(0, .ref (a0 0)), (2, .int x2)]) (fun (t2 : St) => []) (fun (t2 : St) => [bX10 y a0 t2, bAB400 y a1 v1]) hf (fun t2 hf => ?_) (fun t2 hf J2 => ?_)
  · try dsimp only at hf ⊢
    refine a_aloadn (pc := 37) (j := 0) F dX10_split_37 rfl rfl ?_
    refine a_sipush (pc := 38) F dX10_split_38 ks_259 ?_
    refine a_iconst (pc := 41) F dX10_split_41 kc_0 ?_
    refine a_iloadn (pc := 42) (j := 1) F dX10_split_42 rfl rfl ?_
    obtain ⟨t3, ht3, hf⟩ := bd_some hf
    refine a_callVv (pc := 43) (bs' := [bX10 y a0 t3, bAB400 y a1 v1]) (kb := 0) (j := 0) F [0] (c_X10_add l D y ek n a0 _ _ _ _ _ ht3) (cwV 3 F.1.2.2.2.2 (gV q3_172 q3_174 qs_6 q1_2 q3_175) rfl rfl rfl (by decide +kernel) ⟨Nat.le_of_ble_eq_true rfl, Nat.le_of_ble_eq_true rfl⟩) rfl rfl rfl rfl (by decide) rfl rfl rfl rfl rfl rfl (Nat.le_of_ble_eq_true rfl) ⟨Nat.zero_le _, Nat.zero_le _⟩ dX10_split_43 ?_
    obtain rfl := Option.some.inj hf
    exact hret _ _ _ _ (Nat.zero_le _) (Nat.zero_le _) dX10_split_46
  · refine a_loop 10 (fun (x4l : Int32 × Int32 × St) => [(0, .ref (a0 0)), (1, .ref (a1 0)), (2, .int x2), (3, .int x4l.1), (4, .int x4l.2.1)]) (fun (x4l : Int32 × Int32 × St) => [bX10 y a0 x4l.2.2, bAB400 y a1 v1]) (fun rc4 x4l ih4 hf => ?_) hf rfl rfl
    try dsimp only at hf ⊢
    refine a_iload (pc := 10) (j := 4) F dX10_split_10 rfl ?_
    refine a_iloadn (pc := 12) (j := 2) F dX10_split_12 rfl rfl ?_
    refine a_icmp_ge (pc := 13) (tgt := 37) F dX10_split_13 (by decide) (fun h => ?_) (fun h => ?_)
    · replace hf := it_pos h hf
      refine a_sub [0, 2] rfl ?_
      obtain rfl := Option.some.inj hf
      exact J2
    · replace hf := it_neg h hf
      refine a_iload (pc := 16) (j := 4) F dX10_split_16 rfl ?_
      refine a_iloadn (pc := 18) (j := 3) F dX10_split_18 rfl rfl ?_
      refine a_join 31 (fun (t5 : Int32 × St) => [(0, .ref (a0 0)), (1, .ref (a1 0)), (2, .int x2), (3, .int t5.1), (4, .int x4l.2.1)]) (fun (t5 : Int32 × St) => []) (fun (t5 : Int32 × St) => [bX10 y a0 t5.2, bAB400 y a1 v1]) hf (fun t5 hf => ?_) (fun t5 hf J5 => ?_)
      · try dsimp only at hf ⊢
        refine a_iinc (pc := 31) (j := 4) (v := (x4l.2.1 + 1)) (lv' := [(0, .ref (a0 0)), (1, .ref (a1 0)), (2, .int x2), (3, .int t5.1), (4, .int (x4l.2.1 + 1))]) F [1, 2, 3, 4, 0] dX10_split_31 rfl ki_1 (by decide) rfl ?_
        refine a_goto (pc := 34) (tgt := 10) F dX10_split_34 (by decide) ?_
        exact ih4 (t5.1, (x4l.2.1 + 1), t5.2) hf
      · refine a_icmp_lt (pc := 19) (tgt := 31) F dX10_split_19 (by decide) (fun h => ?_) (fun h => ?_)
        · replace hf := it_pos h hf
          obtain rfl := Option.some.inj hf
          exact J5
        · replace hf := it_neg h hf
          refine a_aloadn (pc := 22) (j := 0) F dX10_split_22 rfl rfl ?_
          refine a_aloadn (pc := 23) (j := 1) F dX10_split_23 rfl rfl ?_
          refine a_iload (pc := 24) (j := 4) F dX10_split_24 rfl ?_
          refine a_iloadn (pc := 26) (j := 2) F dX10_split_26 rfl rfl ?_
          obtain ⟨t6, ht6, hf⟩ := bd_some hf
          refine a_callV (pc := 27) (bs' := [bX10 y a0 t6.2, bAB400 y a1 v1]) (kb := 0) (j := 0) F [0, 1] (c_X10_addFrom l D y ek n a0 a1 _ _ _ _ _ ht6) (cwV 3 F.1.2.2.2.2 (gV q3_110 q3_112 qs_5 q1_2 q3_113) rfl rfl rfl (by decide +kernel) ⟨Nat.le_of_ble_eq_true rfl, Nat.le_of_ble_eq_true rfl⟩) rfl rfl rfl rfl (by decide) rfl rfl rfl rfl rfl rfl (Nat.le_of_ble_eq_true rfl) ⟨Nat.zero_le _, Nat.zero_le _⟩ dX10_split_27 ?_
          refine a_istoren (pc := 30) (lv' := [(0, .ref (a0 0)), (1, .ref (a1 0)), (2, .int x2), (3, .int t6.1), (4, .int x4l.2.1)]) F [1, 2, 3, 0, 4] dX10_split_30 rfl (by decide) rfl ?_
          obtain rfl := Option.some.inj hf
          exact J5

abbrev wX10_code : List Cond := Cond.code yX10_code cX10_code 2 (some .int) :: WALL
def m_X10_code (n : Nat) (v0 : St) (x1 : Int32) : Option (Int32) :=
jn (fun (t1 : Unit) =>
some 259) (fun (K1 : Unit → Option (Int32)) =>
(if x1 < 0 then
K1 ()
else
(if (v0 3 0) ≤ x1 then
K1 ()
else
(if ix x1 401 then some (v0 0 (x1).toNatClampNeg) else none))))
set_option maxHeartbeats 4000000 in
set_option maxRecDepth 100000 in
theorem c_X10_code (l : Launch) (D : va_G) (y : Nat → ClassId) (ek : EK) (n : Nat) (a0 : Nat → Nat) (v0 : St) (x1 : Int32) (res : Int32) (hf : m_X10_code n v0 x1 = some res) : CI l yX10_code wX10_code { frames := 0, cells := 0, slots := 0, locals := 0 } D y ek [.ref (a0 0), .int x1] [bX10 y a0 v0] (res) [bX10 y a0 v0] 0 0 := by
  unfold m_X10_code at hf
  refine ci_of (cc := cX10_code) (maxL := 2) (by decide) rfl rfl (Nat.le_of_ble_eq_true rfl) ?_
  intro p e s m below meth c Q A F hret
  refine a_lv (lv' := [(0, .ref (a0 0)), (1, .int x1)]) rfl ?_
  refine a_iloadn (pc := 0) (j := 1) F dX10_code_0 rfl rfl ?_
  refine a_jn 21 (fun (t1 : Unit) => []) (fun (t1 : Unit) => []) (fun (t1 : Unit) => [bX10 y a0 v0]) hf (fun t1 hf => ?_) (fun K1 hK1 hf => ?_)
  · try dsimp only at hf ⊢
    refine a_sipush (pc := 21) F dX10_code_21 ks_259 ?_
    obtain rfl := Option.some.inj hf
    exact hret _ _ _ _ (Nat.zero_le _) (Nat.zero_le _) rfl dX10_code_24
  · try dsimp only at hf
    refine a_if_lt (pc := 1) (tgt := 21) F dX10_code_1 (by decide) (fun h => ?_) (fun h => ?_)
    · replace hf := it_pos h hf
      refine a_sub [] rfl ?_
      exact hK1 () hf
    · replace hf := it_neg h hf
      refine a_iloadn (pc := 4) (j := 1) F dX10_code_4 rfl rfl ?_
      refine a_aloadn (pc := 5) (j := 0) F dX10_code_5 rfl rfl ?_
      refine a_get (pc := 6) (kb := 0) (j := 0) (f := 3) F iW_X10 rfl rfl rfl (by decide) (tl q1_47) (fun _ h => h) rfl dX10_code_6 ?_
      refine a_icmp_ge (pc := 9) (tgt := 21) F dX10_code_9 (by decide) (fun h => ?_) (fun h => ?_)
      · replace hf := it_pos h hf
        refine a_sub [] rfl ?_
        exact hK1 () hf
      · replace hf := it_neg h hf
        refine a_aloadn (pc := 12) (j := 0) F dX10_code_12 rfl rfl ?_
        refine a_get (pc := 13) (kb := 0) (j := 0) (f := 0) F iW_X10 rfl rfl rfl (by decide) (tl q1_43) (fun _ h => h) rfl dX10_code_13 ?_
        refine a_iloadn (pc := 16) (j := 1) F dX10_code_16 rfl rfl ?_
        obtain ⟨h2, hf⟩ := gd_some hf
        refine a_iald (pc := 17) (kb := 0) (j := 1) F rfl rfl h2 dX10_code_17 ?_
        refine a_goto (pc := 18) (tgt := 24) F dX10_code_18 (by decide) ?_
        obtain rfl := Option.some.inj hf
        exact hret _ _ _ _ (Nat.zero_le _) (Nat.zero_le _) rfl dX10_code_24

abbrev wX10_value : List Cond := Cond.code yX10_value cX10_value 2 (some .int) :: WALL
def m_X10_value (n : Nat) (v0 : St) (x1 : Int32) : Option (Int32) :=
jn (fun (t1 : Unit) =>
some 0) (fun (K1 : Unit → Option (Int32)) =>
(if x1 < 0 then
K1 ()
else
(if (v0 3 0) ≤ x1 then
K1 ()
else
(if ix x1 401 then some (v0 1 (x1).toNatClampNeg) else none))))
set_option maxHeartbeats 4000000 in
set_option maxRecDepth 100000 in
theorem c_X10_value (l : Launch) (D : va_G) (y : Nat → ClassId) (ek : EK) (n : Nat) (a0 : Nat → Nat) (v0 : St) (x1 : Int32) (res : Int32) (hf : m_X10_value n v0 x1 = some res) : CI l yX10_value wX10_value { frames := 0, cells := 0, slots := 0, locals := 0 } D y ek [.ref (a0 0), .int x1] [bX10 y a0 v0] (res) [bX10 y a0 v0] 0 0 := by
  unfold m_X10_value at hf
  refine ci_of (cc := cX10_value) (maxL := 2) (by decide) rfl rfl (Nat.le_of_ble_eq_true rfl) ?_
  intro p e s m below meth c Q A F hret
  refine a_lv (lv' := [(0, .ref (a0 0)), (1, .int x1)]) rfl ?_
  refine a_iloadn (pc := 0) (j := 1) F dX10_value_0 rfl rfl ?_
  refine a_jn 21 (fun (t1 : Unit) => []) (fun (t1 : Unit) => []) (fun (t1 : Unit) => [bX10 y a0 v0]) hf (fun t1 hf => ?_) (fun K1 hK1 hf => ?_)
  · try dsimp only at hf ⊢
    refine a_iconst (pc := 21) F dX10_value_21 kc_0 ?_
    obtain rfl := Option.some.inj hf
    exact hret _ _ _ _ (Nat.zero_le _) (Nat.zero_le _) rfl dX10_value_22
  · try dsimp only at hf
    refine a_if_lt (pc := 1) (tgt := 21) F dX10_value_1 (by decide) (fun h => ?_) (fun h => ?_)
    · replace hf := it_pos h hf
      refine a_sub [] rfl ?_
      exact hK1 () hf
    · replace hf := it_neg h hf
      refine a_iloadn (pc := 4) (j := 1) F dX10_value_4 rfl rfl ?_
      refine a_aloadn (pc := 5) (j := 0) F dX10_value_5 rfl rfl ?_
      refine a_get (pc := 6) (kb := 0) (j := 0) (f := 3) F iW_X10 rfl rfl rfl (by decide) (tl q1_47) (fun _ h => h) rfl dX10_value_6 ?_
      refine a_icmp_ge (pc := 9) (tgt := 21) F dX10_value_9 (by decide) (fun h => ?_) (fun h => ?_)
      · replace hf := it_pos h hf
        refine a_sub [] rfl ?_
        exact hK1 () hf
      · replace hf := it_neg h hf
        refine a_aloadn (pc := 12) (j := 0) F dX10_value_12 rfl rfl ?_
        refine a_get (pc := 13) (kb := 0) (j := 0) (f := 1) F iW_X10 rfl rfl rfl (by decide) (tl q1_45) (fun _ h => h) rfl dX10_value_13 ?_
        refine a_iloadn (pc := 16) (j := 1) F dX10_value_16 rfl rfl ?_
        obtain ⟨h2, hf⟩ := gd_some hf
        refine a_iald (pc := 17) (kb := 0) (j := 2) F rfl rfl h2 dX10_value_17 ?_
        refine a_goto (pc := 18) (tgt := 22) F dX10_value_18 (by decide) ?_
        obtain rfl := Option.some.inj hf
        exact hret _ _ _ _ (Nat.zero_le _) (Nat.zero_le _) rfl dX10_value_22

abbrev wX10_start : List Cond := Cond.code yX10_start cX10_start 2 (some .int) :: WALL
def m_X10_start (n : Nat) (v0 : St) (x1 : Int32) : Option (Int32) :=
jn (fun (t1 : Unit) =>
some 0) (fun (K1 : Unit → Option (Int32)) =>
(if x1 < 0 then
K1 ()
else
(if (v0 3 0) ≤ x1 then
K1 ()
else
(if ix x1 401 then some (v0 2 (x1).toNatClampNeg) else none))))
set_option maxHeartbeats 4000000 in
set_option maxRecDepth 100000 in
theorem c_X10_start (l : Launch) (D : va_G) (y : Nat → ClassId) (ek : EK) (n : Nat) (a0 : Nat → Nat) (v0 : St) (x1 : Int32) (res : Int32) (hf : m_X10_start n v0 x1 = some res) : CI l yX10_start wX10_start { frames := 0, cells := 0, slots := 0, locals := 0 } D y ek [.ref (a0 0), .int x1] [bX10 y a0 v0] (res) [bX10 y a0 v0] 0 0 := by
  unfold m_X10_start at hf
  refine ci_of (cc := cX10_start) (maxL := 2) (by decide) rfl rfl (Nat.le_of_ble_eq_true rfl) ?_
  intro p e s m below meth c Q A F hret
  refine a_lv (lv' := [(0, .ref (a0 0)), (1, .int x1)]) rfl ?_
  refine a_iloadn (pc := 0) (j := 1) F dX10_start_0 rfl rfl ?_
  refine a_jn 21 (fun (t1 : Unit) => []) (fun (t1 : Unit) => []) (fun (t1 : Unit) => [bX10 y a0 v0]) hf (fun t1 hf => ?_) (fun K1 hK1 hf => ?_)
  · try dsimp only at hf ⊢
    refine a_iconst (pc := 21) F dX10_start_21 kc_0 ?_
    obtain rfl := Option.some.inj hf
    exact hret _ _ _ _ (Nat.zero_le _) (Nat.zero_le _) rfl dX10_start_22
  · try dsimp only at hf
    refine a_if_lt (pc := 1) (tgt := 21) F dX10_start_1 (by decide) (fun h => ?_) (fun h => ?_)
    · replace hf := it_pos h hf
      refine a_sub [] rfl ?_
      exact hK1 () hf
    · replace hf := it_neg h hf
      refine a_iloadn (pc := 4) (j := 1) F dX10_start_4 rfl rfl ?_
      refine a_aloadn (pc := 5) (j := 0) F dX10_start_5 rfl rfl ?_
      refine a_get (pc := 6) (kb := 0) (j := 0) (f := 3) F iW_X10 rfl rfl rfl (by decide) (tl q1_47) (fun _ h => h) rfl dX10_start_6 ?_
      refine a_icmp_ge (pc := 9) (tgt := 21) F dX10_start_9 (by decide) (fun h => ?_) (fun h => ?_)
      · replace hf := it_pos h hf
        refine a_sub [] rfl ?_
        exact hK1 () hf
      · replace hf := it_neg h hf
        refine a_aloadn (pc := 12) (j := 0) F dX10_start_12 rfl rfl ?_
        refine a_get (pc := 13) (kb := 0) (j := 0) (f := 2) F iW_X10 rfl rfl rfl (by decide) (tl q1_46) (fun _ h => h) rfl dX10_start_13 ?_
        refine a_iloadn (pc := 16) (j := 1) F dX10_start_16 rfl rfl ?_
        obtain ⟨h2, hf⟩ := gd_some hf
        refine a_iald (pc := 17) (kb := 0) (j := 3) F rfl rfl h2 dX10_start_17 ?_
        refine a_goto (pc := 18) (tgt := 22) F dX10_start_18 (by decide) ?_
        obtain rfl := Option.some.inj hf
        exact hret _ _ _ _ (Nat.zero_le _) (Nat.zero_le _) rfl dX10_start_22
