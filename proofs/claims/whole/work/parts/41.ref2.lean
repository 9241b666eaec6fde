abbrev wX12_readNumber : List Cond := Cond.code yX12_readNumber cX12_readNumber 5 (some .boolean) :: WALL
def m_X12_readNumber (n : Nat) (v0 : St) (x1 : Int32) (x2 : Int32) (x3 : Int32) : Option (Int32 × St) :=
bd (m_X12_number n v0 x2 x3) (fun t1 =>
bd ((if 0 ≤ t1.1 then
some t1.1
else
(if ix x1 2080 then some (t1.2 1 (x1).toNatClampNeg) else none))) (fun (t2 : Int32) =>
(if ix x1 2080 then nm (su t1.2 1 (x1).toNatClampNeg t2) (fun u4 =>
(if t1.1 < 0 then
some (0, u4)
else
some (1, u4))) else none)))
set_option maxHeartbeats 4000000 in
set_option maxRecDepth 100000 in
theorem c_X12_readNumber (l : Launch) (D : va_G) (y : Nat → ClassId) (ek : EK) (n : Nat) (a0 : Nat → Nat) (v0 : St) (x1 : Int32) (x2 : Int32) (x3 : Int32) (res : Int32 × St) (hf : m_X12_readNumber n v0 x1 x2 x3 = some res) : CI l yX12_readNumber wX12_readNumber { frames := 3, cells := 0, slots := 0, locals := 65 } D y ek [.ref (a0 0), .int x1, .int x2, .int x3] [bX12 y a0 v0] (res.1) [bX12 y a0 res.2] 0 0 := by
  unfold m_X12_readNumber at hf
  refine ci_of (cc := cX12_readNumber) (maxL := 5) (by decide) rfl rfl (Nat.le_of_ble_eq_true rfl) ?_
  intro p e s m below meth c Q A F hret
  refine a_lv (lv' := [(0, .ref (a0 0)), (1, .int x1), (2, .int x2), (3, .int x3)]) rfl ?_
  refine a_aloadn (pc := 0) (j := 0) F dX12_readNumber_0 rfl rfl ?_
  refine a_iloadn (pc := 1) (j := 2) F dX12_readNumber_1 rfl rfl ?_
  refine a_iloadn (pc := 2) (j := 3) F dX12_readNumber_2 rfl rfl ?_
  obtain ⟨t1, ht1, hf⟩ := bd_some hf
  refine a_callV (pc := 3) (bs' := [bX12 y a0 t1.2]) (kb := 0) (j := 0) F [0] (c_X12_number l D y ek n a0 _ _ _ _ ht1) (cwV 2 F.1.2.2.2.2 (gV q6_200 q6_202 qs_35 q1_11 q6_203) rfl rfl rfl (by decide +kernel) ⟨Nat.le_of_ble_eq_true rfl, Nat.le_of_ble_eq_true rfl⟩) rfl rfl rfl rfl (by decide) rfl rfl rfl rfl rfl rfl (Nat.le_of_ble_eq_true rfl) ⟨Nat.zero_le _, Nat.zero_le _⟩ dX12_readNumber_3 ?_
  refine a_istore (pc := 6) (lv' := [(0, .ref (a0 0)), (1, .int x1), (2, .int x2), (3, .int x3), (4, .int t1.1)]) F [1, 2, 3, 4, 0] dX12_readNumber_6 (by decide) rfl ?_
  refine a_aloadn (pc := 8) (j := 0) F dX12_readNumber_8 rfl rfl ?_
  refine a_get (pc := 9) (kb := 0) (j := 0) (f := 1) F iW_X12 rfl rfl rfl (by decide) (tl q6_69) (fun _ h => h) rfl dX12_readNumber_9 ?_
  refine a_iloadn (pc := 12) (j := 1) F dX12_readNumber_12 rfl rfl ?_
  refine a_iload (pc := 13) (j := 4) F dX12_readNumber_13 rfl ?_
  refine a_join 29 (fun (t2 : Int32) => [(4, .int t1.1)]) (fun (t2 : Int32) => [.int t2, .int x1, .ref (a0 2)]) (fun (t2 : Int32) => [bX12 y a0 t1.2]) hf (fun t2 hf => ?_) (fun t2 hf J2 => ?_)
  · try dsimp only at hf ⊢
    obtain ⟨h3, hf⟩ := gd_some hf
    obtain ⟨u4, eu4, hf⟩ := nm_some hf
    refine a_iast (pc := 29) (kb := 0) (j := 1) (bs' := [bX12 y a0 u4]) F rfl rfl h3 (by rw [eu4]; rfl) dX12_readNumber_29 ?_
    refine a_iload (pc := 30) (j := 0) F dX12_readNumber_30 rfl ?_
    refine a_if_lt (pc := 32) (tgt := 39) F dX12_readNumber_32 (by decide) (fun h => ?_) (fun h => ?_)
    · replace hf := it_pos h hf
      refine a_iconst (pc := 39) F dX12_readNumber_39 kc_0 ?_
      obtain rfl := Option.some.inj hf
      exact hret _ _ _ _ (Nat.zero_le _) (Nat.zero_le _) (z_nar (Or.inl rfl)) dX12_readNumber_40
    · replace hf := it_neg h hf
      refine a_iconst (pc := 35) F dX12_readNumber_35 kc_1 ?_
      refine a_goto (pc := 36) (tgt := 40) F dX12_readNumber_36 (by decide) ?_
      obtain rfl := Option.some.inj hf
      exact hret _ _ _ _ (Nat.zero_le _) (Nat.zero_le _) (z_nar (Or.inr rfl)) dX12_readNumber_40
  · refine a_if_ge (pc := 15) (tgt := 27) F dX12_readNumber_15 (by decide) (fun h => ?_) (fun h => ?_)
    · replace hf := it_pos h hf
      refine a_iload (pc := 27) (j := 4) F dX12_readNumber_27 rfl ?_
      refine a_sub [4] rfl ?_
      obtain rfl := Option.some.inj hf
      exact J2
    · replace hf := it_neg h hf
      refine a_aloadn (pc := 18) (j := 0) F dX12_readNumber_18 rfl rfl ?_
      refine a_get (pc := 19) (kb := 0) (j := 0) (f := 1) F iW_X12 rfl rfl rfl (by decide) (tl q6_69) (fun _ h => h) rfl dX12_readNumber_19 ?_
      refine a_iloadn (pc := 22) (j := 1) F dX12_readNumber_22 rfl rfl ?_
      obtain ⟨h5, hf⟩ := gd_some hf
      refine a_iald (pc := 23) (kb := 0) (j := 1) F rfl rfl h5 dX12_readNumber_23 ?_
      refine a_goto (pc := 24) (tgt := 29) F dX12_readNumber_24 (by decide) ?_
      refine a_sub [4] rfl ?_
      obtain rfl := Option.some.inj hf
      exact J2

abbrev wX12_readPlank : List Cond := Cond.code yX12_readPlank cX12_readPlank 5 (some .boolean) :: WALL
def m_X12_readPlank (n : Nat) (v0 : St) : Option (Int32 × St) :=
bd (m_X12_planks n v0) (fun t1 =>
(if t1 = 5 then
some (0, v0)
else
bd (m_X12_number n v0 10 400) (fun t2 =>
(if 0 ≤ t2.1 then
bd (m_X12_passes n t2.2 1) (fun t3 =>
bd ((if t3.1 = 0 then
some (0, t3.2)
else
bd (m_X12_number n t3.2 0 99) (fun t27 =>
some (t27.1, t27.2)))) (fun (t4 : Int32 × St) =>
(if 0 ≤ t4.1 then
bd (m_X12_plankAt n t1 0) (fun t5 =>
(if ix t5 2080 then nm (su t4.2 1 (t5).toNatClampNeg t2.1) (fun u7 =>
bd (m_X12_plankAt n t1 1) (fun t8 =>
(if ix t8 2080 then nm (su u7 1 (t8).toNatClampNeg t4.1) (fun u10 =>
bd (m_X12_plankAt n t1 2) (fun t11 =>
(if ix t11 2080 then nm (su u10 1 (t11).toNatClampNeg 0) (fun u13 =>
bd (m_X12_plankAt n t1 3) (fun t14 =>
(if ix t14 2080 then nm (su u13 1 (t14).toNatClampNeg 0) (fun u16 =>
nm (2 * t1) (fun x4_17 =>
bd (lp (fun (rc20 : Int32 × St → Option (St)) (x20l : Int32 × St) =>
(if ((2 * t1) + 1) < x20l.1 then
some x20l.2
else
bd (m_X12_houseAt n x20l.1 0) (fun t21 =>
(if ix t21 2080 then nm (su x20l.2 1 (t21).toNatClampNeg 100) (fun u23 =>
bd (m_X12_houseAt n x20l.1 1) (fun t24 =>
(if ix t24 2080 then nm (su u23 1 (t24).toNatClampNeg 0) (fun u26 =>
rc20 ((x20l.1 + 1), u26)) else none))) else none)))) n (x4_17, u16)) (fun (t18 : St) =>
nm (su t18 1 0 ((t18 1 0) + 1)) (fun u19 =>
some (1, u19))))) else none))) else none))) else none))) else none))
else
some (0, t4.2))))
else
some (0, t2.2)))))
set_option maxHeartbeats 4000000 in
set_option maxRecDepth 100000 in
theorem c_X12_readPlank (l : Launch) (D : va_G) (y : Nat → ClassId) (ek : EK) (n : Nat) (a0 : Nat → Nat) (v0 : St) (res : Int32 × St) (hf : m_X12_readPlank n v0 = some res) : CI l yX12_readPlank wX12_readPlank { frames := 6, cells := 0, slots := 0, locals := 129 } D y ek [.ref (a0 0)] [bX12 y a0 v0] (res.1) [bX12 y a0 res.2] 0 0 := by
  unfold m_X12_readPlank at hf
  refine ci_of (cc := cX12_readPlank) (maxL := 5) (by decide) rfl rfl (Nat.le_of_ble_eq_true rfl) ?_
  intro p e s m below meth c Q A F hret
  refine a_lv (lv' := [(0, .ref (a0 0))]) rfl ?_
  refine a_aloadn (pc := 0) (j := 0) F dX12_readPlank_0 rfl rfl ?_
  obtain ⟨t1, ht1, hf⟩ := bd_some hf
  refine a_callV (pc := 1) (bs' := [bX12 y a0 v0]) (kb := 0) (j := 0) F [0] (c_X12_planks l D y ek n a0 _ _ ht1) (cwV 0 F.1.2.2.2.2 (gV q6_196 q6_198 qs_34 q1_11 q6_199) rfl rfl rfl (by decide +kernel) ⟨Nat.le_of_ble_eq_true rfl, Nat.le_of_ble_eq_true rfl⟩) rfl rfl rfl rfl (by decide) rfl rfl rfl rfl rfl rfl (Nat.le_of_ble_eq_true rfl) ⟨Nat.zero_le _, Nat.zero_le _⟩ dX12_readPlank_1 ?_
  refine a_istoren (pc := 4) (lv' := [(0, .ref (a0 0)), (1, .int t1)]) F [1, 0] dX12_readPlank_4 rfl (by decide) rfl ?_
  refine a_iloadn (pc := 5) (j := 1) F dX12_readPlank_5 rfl rfl ?_
  refine a_iconst (pc := 6) F dX12_readPlank_6 kc_5 ?_
  refine a_icmp_ne (pc := 7) (tgt := 12) F dX12_readPlank_7 (by decide) (fun h => ?_) (fun h => ?_)
  · replace hf := it_neg h hf
    refine a_aloadn (pc := 12) (j := 0) F dX12_readPlank_12 rfl rfl ?_
    refine a_bipush (pc := 13) F dX12_readPlank_13 kb_10 ?_
    refine a_sipush (pc := 15) F dX12_readPlank_15 ks_400 ?_
    obtain ⟨t2, ht2, hf⟩ := bd_some hf
    refine a_callV (pc := 18) (bs' := [bX12 y a0 t2.2]) (kb := 0) (j := 0) F [0] (c_X12_number l D y ek n a0 _ _ _ _ ht2) (cwV 2 F.1.2.2.2.2 (gV q6_200 q6_202 qs_35 q1_11 q6_203) rfl rfl rfl (by decide +kernel) ⟨Nat.le_of_ble_eq_true rfl, Nat.le_of_ble_eq_true rfl⟩) rfl rfl rfl rfl (by decide) rfl rfl rfl rfl rfl rfl (Nat.le_of_ble_eq_true rfl) ⟨Nat.zero_le _, Nat.zero_le _⟩ dX12_readPlank_18 ?_
    refine a_istoren (pc := 21) (lv' := [(0, .ref (a0 0)), (1, .int t1), (2, .int t2.1)]) F [1, 2, 0] dX12_readPlank_21 rfl (by decide) rfl ?_
    refine a_iloadn (pc := 22) (j := 2) F dX12_readPlank_22 rfl rfl ?_
    refine a_if_ge (pc := 23) (tgt := 28) F dX12_readPlank_23 (by decide) (fun h => ?_) (fun h => ?_)
    · replace hf := it_pos h hf
      refine a_aloadn (pc := 28) (j := 0) F dX12_readPlank_28 rfl rfl ?_
      refine a_ldcS (pc := 29) (tx := "age") F 1 rfl dX12_readPlank_29 ?_
      obtain ⟨t3, ht3, hf⟩ := bd_some hf
      refine a_callV (pc := 31) (bs' := [bX12 y a0 t3.2]) (kb := 0) (j := 0) F [0] (c_X12_passes l D y ek n a0 _ _ _ ht3) (cwV 1 F.1.2.2.2.2 (gV q6_205 q6_207 qs_36 q1_11 q6_208) rfl rfl rfl (by decide +kernel) ⟨Nat.le_of_ble_eq_true rfl, Nat.le_of_ble_eq_true rfl⟩) rfl rfl rfl rfl (by decide) rfl rfl rfl rfl rfl rfl (Nat.le_of_ble_eq_true rfl) ⟨Nat.zero_le _, Nat.zero_le _⟩ dX12_readPlank_31 ?_
      refine a_join 48 (fun (t4 : Int32 × St) => [(0, .ref (a0 0)), (1, .int t1), (2, .int t2.1)]) (fun (t4 : Int32 × St) => [.int t4.1]) (fun (t4 : Int32 × St) => [bX12 y a0 t4.2]) hf (fun t4 hf => ?_) (fun t4 hf J4 => ?_)
      · try dsimp only at hf ⊢
        refine a_istoren (pc := 48) (lv' := [(0, .ref (a0 0)), (1, .int t1), (2, .int t2.1), (3, .int t4.1)]) F [1, 2, 3, 0] dX12_readPlank_48 rfl (by decide) rfl ?_
        refine a_iloadn (pc := 49) (j := 3) F dX12_readPlank_49 rfl rfl ?_
        refine a_if_ge (pc := 50) (tgt := 55) F dX12_readPlank_50 (by decide) (fun h => ?_) (fun h => ?_)
        · replace hf := it_pos h hf
          refine a_aloadn (pc := 55) (j := 0) F dX12_readPlank_55 rfl rfl ?_
          refine a_get (pc := 56) (kb := 0) (j := 0) (f := 1) F iW_X12 rfl rfl rfl (by decide) (tl q6_69) (fun _ h => h) rfl dX12_readPlank_56 ?_
          refine a_iloadn (pc := 59) (j := 1) F dX12_readPlank_59 rfl rfl ?_
          refine a_iconst (pc := 60) F dX12_readPlank_60 kc_0 ?_
          obtain ⟨t5, ht5, hf⟩ := bd_some hf
          refine a_callS (pc := 61) (bs' := [bX12 y a0 t4.2]) F [] (c_X12_plankAt l D y ek n  _ _ _ ht5) (va_cwS 2 F.1.2.2.2.2 (gS q6_209 q6_210 q1_11 q6_211) rfl rfl rfl (by decide +kernel) ⟨Nat.le_of_ble_eq_true rfl, Nat.le_of_ble_eq_true rfl⟩) (by decide) rfl rfl rfl rfl rfl rfl (Nat.le_of_ble_eq_true rfl) ⟨Nat.zero_le _, Nat.zero_le _⟩ dX12_readPlank_61 ?_
          refine a_iloadn (pc := 64) (j := 2) F dX12_readPlank_64 rfl rfl ?_
          obtain ⟨h6, hf⟩ := gd_some hf
          obtain ⟨u7, eu7, hf⟩ := nm_some hf
          refine a_iast (pc := 65) (kb := 0) (j := 1) (bs' := [bX12 y a0 u7]) F rfl rfl h6 (by rw [eu7]; rfl) dX12_readPlank_65 ?_
          refine a_aloadn (pc := 66) (j := 0) F dX12_readPlank_66 rfl rfl ?_
          refine a_get (pc := 67) (kb := 0) (j := 0) (f := 1) F iW_X12 rfl rfl rfl (by decide) (tl q6_69) (fun _ h => h) rfl dX12_readPlank_67 ?_
          refine a_iloadn (pc := 70) (j := 1) F dX12_readPlank_70 rfl rfl ?_
          refine a_iconst (pc := 71) F dX12_readPlank_71 kc_1 ?_
          obtain ⟨t8, ht8, hf⟩ := bd_some hf
          refine a_callS (pc := 72) (bs' := [bX12 y a0 u7]) F [] (c_X12_plankAt l D y ek n  _ _ _ ht8) (va_cwS 2 F.1.2.2.2.2 (gS q6_209 q6_210 q1_11 q6_211) rfl rfl rfl (by decide +kernel) ⟨Nat.le_of_ble_eq_true rfl, Nat.le_of_ble_eq_true rfl⟩) (by decide) rfl rfl rfl rfl rfl rfl (Nat.le_of_ble_eq_true rfl) ⟨Nat.zero_le _, Nat.zero_le _⟩ dX12_readPlank_72 ?_
          refine a_iloadn (pc := 75) (j := 3) F dX12_readPlank_75 rfl rfl ?_
          obtain ⟨h9, hf⟩ := gd_some hf
          obtain ⟨u10, eu10, hf⟩ := nm_some hf
          refine a_iast (pc := 76) (kb := 0) (j := 1) (bs' := [bX12 y a0 u10]) F rfl rfl h9 (by rw [eu10]; rfl) dX12_readPlank_76 ?_
          refine a_aloadn (pc := 77) (j := 0) F dX12_readPlank_77 rfl rfl ?_
          refine a_get (pc := 78) (kb := 0) (j := 0) (f := 1) F iW_X12 rfl rfl rfl (by decide) (tl q6_69) (fun _ h => h) rfl dX12_readPlank_78 ?_
          refine a_iloadn (pc := 81) (j := 1) F dX12_readPlank_81 rfl rfl ?_
          refine a_iconst (pc := 82) F dX12_readPlank_82 kc_2 ?_
          obtain ⟨t11, ht11, hf⟩ := bd_some hf
          refine a_callS (pc := 83) (bs' := [bX12 y a0 u10]) F [] (c_X12_plankAt l D y ek n  _ _ _ ht11) (va_cwS 2 F.1.2.2.2.2 (gS q6_209 q6_210 q1_11 q6_211) rfl rfl rfl (by decide +kernel) ⟨Nat.le_of_ble_eq_true rfl, Nat.le_of_ble_eq_true rfl⟩) (by decide) rfl rfl rfl rfl rfl rfl (Nat.le_of_ble_eq_true rfl) ⟨Nat.zero_le _, Nat.zero_le _⟩ dX12_readPlank_83 ?_
          refine a_iconst (pc := 86) F dX12_readPlank_86 kc_0 ?_
          obtain ⟨h12, hf⟩ := gd_some hf
          obtain ⟨u13, eu13, hf⟩ := nm_some hf
          refine a_iast (pc := 87) (kb := 0) (j := 1) (bs' := [bX12 y a0 u13]) F rfl rfl h12 (by rw [eu13]; rfl) dX12_readPlank_87 ?_
          refine a_aloadn (pc := 88) (j := 0) F dX12_readPlank_88 rfl rfl ?_
          refine a_get (pc := 89) (kb := 0) (j := 0) (f := 1) F iW_X12 rfl rfl rfl (by decide) (tl q6_69) (fun _ h => h) rfl dX12_readPlank_89 ?_
          refine a_iloadn (pc := 92) (j := 1) F dX12_readPlank_92 rfl rfl ?_
          refine a_iconst (pc := 93) F dX12_readPlank_93 kc_3 ?_
          obtain ⟨t14, ht14, hf⟩ := bd_some hf
          refine a_callS (pc := 94) (bs' := [bX12 y a0 u13]) F [] (c_X12_plankAt l D y ek n  _ _ _ ht14) (va_cwS 2 F.1.2.2.2.2 (gS q6_209 q6_210 q1_11 q6_211) rfl rfl rfl (by decide +kernel) ⟨Nat.le_of_ble_eq_true rfl, Nat.le_of_ble_eq_true rfl⟩) (by decide) rfl rfl rfl rfl rfl rfl (Nat.le_of_ble_eq_true rfl) ⟨Nat.zero_le _, Nat.zero_le _⟩ dX12_readPlank_94 ?_
          refine a_iconst (pc := 97) F dX12_readPlank_97 kc_0 ?_
          obtain ⟨h15, hf⟩ := gd_some hf
          obtain ⟨u16, eu16, hf⟩ := nm_some hf
          refine a_iast (pc := 98) (kb := 0) (j := 1) (bs' := [bX12 y a0 u16]) F rfl rfl h15 (by rw [eu16]; rfl) dX12_readPlank_98 ?_
          refine a_iconst (pc := 99) F dX12_readPlank_99 kc_2 ?_
          refine a_iloadn (pc := 100) (j := 1) F dX12_readPlank_100 rfl rfl ?_
          refine a_imul (pc := 101) F dX12_readPlank_101 ?_
          obtain ⟨x4_17, ex4_17, hf⟩ := nm_some hf
          refine a_nmi ex4_17 ?_
          refine a_istore (pc := 102) (lv' := [(0, .ref (a0 0)), (1, .int t1), (2, .int t2.1), (3, .int t4.1), (4, .int x4_17)]) F [1, 2, 3, 4, 0] dX12_readPlank_102 (by decide) rfl ?_
          refine a_join 145 (fun (t18 : St) => [(0, .ref (a0 0))]) (fun (t18 : St) => []) (fun (t18 : St) => [bX12 y a0 t18]) hf (fun t18 hf => ?_) (fun t18 hf J18 => ?_)
          · try dsimp only at hf ⊢
            refine a_aloadn (pc := 145) (j := 0) F dX12_readPlank_145 rfl rfl ?_
            refine a_get (pc := 146) (kb := 0) (j := 0) (f := 1) F iW_X12 rfl rfl rfl (by decide) (tl q6_69) (fun _ h => h) rfl dX12_readPlank_146 ?_
            refine a_iconst (pc := 149) F dX12_readPlank_149 kc_0 ?_
            refine a_dup2 (pc := 150) F dX12_readPlank_150 rfl rfl ?_
            refine a_ialdc (pc := 151) (kb := 0) (j := 1) (k := 0) F rfl rfl (by decide) (by decide) dX12_readPlank_151 ?_
            refine a_iconst (pc := 152) F dX12_readPlank_152 kc_1 ?_
            refine a_iadd (pc := 153) F dX12_readPlank_153 ?_
            obtain ⟨u19, eu19, hf⟩ := nm_some hf
            refine a_iastc (pc := 154) (kb := 0) (j := 1) (k := 0) (bs' := [bX12 y a0 u19]) F rfl rfl (by decide) (by decide) (by rw [eu19]; rfl) dX12_readPlank_154 ?_
            refine a_iconst (pc := 155) F dX12_readPlank_155 kc_1 ?_
            obtain rfl := Option.some.inj hf
            exact hret _ _ _ _ (Nat.zero_le _) (Nat.zero_le _) (z_nar (Or.inr rfl)) dX12_readPlank_156
          · refine a_sub [0, 1, 4] rfl ?_
            refine a_loop 104 (fun (x20l : Int32 × St) => [(0, .ref (a0 0)), (1, .int t1), (4, .int x20l.1)]) (fun (x20l : Int32 × St) => [bX12 y a0 x20l.2]) (fun rc20 x20l ih20 hf => ?_) hf rfl rfl
            try dsimp only at hf ⊢
            refine a_iload (pc := 104) (j := 2) F dX12_readPlank_104 rfl ?_
            refine a_iconst (pc := 106) F dX12_readPlank_106 kc_2 ?_
            refine a_iloadn (pc := 107) (j := 1) F dX12_readPlank_107 rfl rfl ?_
            refine a_imul (pc := 108) F dX12_readPlank_108 ?_
            refine a_iconst (pc := 109) F dX12_readPlank_109 kc_1 ?_
            refine a_iadd (pc := 110) F dX12_readPlank_110 ?_
            refine a_icmp_gt (pc := 111) (tgt := 145) F dX12_readPlank_111 (by decide) (fun h => ?_) (fun h => ?_)
            · replace hf := it_pos h hf
              refine a_sub [0] rfl ?_
              obtain rfl := Option.some.inj hf
              exact J18
            · replace hf := it_neg h hf
              refine a_aloadn (pc := 114) (j := 0) F dX12_readPlank_114 rfl rfl ?_
              refine a_get (pc := 115) (kb := 0) (j := 0) (f := 1) F iW_X12 rfl rfl rfl (by decide) (tl q6_69) (fun _ h => h) rfl dX12_readPlank_115 ?_
              refine a_iload (pc := 118) (j := 2) F dX12_readPlank_118 rfl ?_
              refine a_iconst (pc := 120) F dX12_readPlank_120 kc_0 ?_
              obtain ⟨t21, ht21, hf⟩ := bd_some hf
              refine a_callS (pc := 121) (bs' := [bX12 y a0 x20l.2]) F [] (c_X12_houseAt l D y ek n  _ _ _ ht21) (va_cwS 2 F.1.2.2.2.2 (gS q6_212 q6_213 q1_11 q6_214) rfl rfl rfl (by decide +kernel) ⟨Nat.le_of_ble_eq_true rfl, Nat.le_of_ble_eq_true rfl⟩) (by decide) rfl rfl rfl rfl rfl rfl (Nat.le_of_ble_eq_true rfl) ⟨Nat.zero_le _, Nat.zero_le _⟩ dX12_readPlank_121 ?_
              refine a_bipush (pc := 124) F dX12_readPlank_124 kb_100 ?_
              obtain ⟨h22, hf⟩ := gd_some hf
              obtain ⟨u23, eu23, hf⟩ := nm_some hf
              refine a_iast (pc := 126) (kb := 0) (j := 1) (bs' := [bX12 y a0 u23]) F rfl rfl h22 (by rw [eu23]; rfl) dX12_readPlank_126 ?_
              refine a_aloadn (pc := 127) (j := 0) F dX12_readPlank_127 rfl rfl ?_
              refine a_get (pc := 128) (kb := 0) (j := 0) (f := 1) F iW_X12 rfl rfl rfl (by decide) (tl q6_69) (fun _ h => h) rfl dX12_readPlank_128 ?_
              refine a_iload (pc := 131) (j := 2) F dX12_readPlank_131 rfl ?_
              refine a_iconst (pc := 133) F dX12_readPlank_133 kc_1 ?_
              obtain ⟨t24, ht24, hf⟩ := bd_some hf
              refine a_callS (pc := 134) (bs' := [bX12 y a0 u23]) F [] (c_X12_houseAt l D y ek n  _ _ _ ht24) (va_cwS 2 F.1.2.2.2.2 (gS q6_212 q6_213 q1_11 q6_214) rfl rfl rfl (by decide +kernel) ⟨Nat.le_of_ble_eq_true rfl, Nat.le_of_ble_eq_true rfl⟩) (by decide) rfl rfl rfl rfl rfl rfl (Nat.le_of_ble_eq_true rfl) ⟨Nat.zero_le _, Nat.zero_le _⟩ dX12_readPlank_134 ?_
              refine a_iconst (pc := 137) F dX12_readPlank_137 kc_0 ?_
              obtain ⟨h25, hf⟩ := gd_some hf
              obtain ⟨u26, eu26, hf⟩ := nm_some hf
              refine a_iast (pc := 138) (kb := 0) (j := 1) (bs' := [bX12 y a0 u26]) F rfl rfl h25 (by rw [eu26]; rfl) dX12_readPlank_138 ?_
              refine a_iinc (pc := 139) (j := 2) (v := (x20l.1 + 1)) (lv' := [(0, .ref (a0 0)), (1, .int t1), (4, .int (x20l.1 + 1))]) F [1, 2, 0] dX12_readPlank_139 rfl ki_1 (by decide) rfl ?_
              refine a_goto (pc := 142) (tgt := 104) F dX12_readPlank_142 (by decide) ?_
              exact ih20 ((x20l.1 + 1), u26) hf
        · replace hf := it_neg h hf
          refine a_iconst (pc := 53) F dX12_readPlank_53 kc_0 ?_
          obtain rfl := Option.some.inj hf
          exact hret _ _ _ _ (Nat.zero_le _) (Nat.zero_le _) (z_nar (Or.inl rfl)) dX12_readPlank_54
      · refine a_if_eq (pc := 34) (tgt := 47) F dX12_readPlank_34 (by decide) (fun h => ?_) (fun h => ?_)
        · replace hf := it_pos h hf
          refine a_iconst (pc := 47) F dX12_readPlank_47 kc_0 ?_
          obtain rfl := Option.some.inj hf
          exact J4
        · replace hf := it_neg h hf
          refine a_aloadn (pc := 37) (j := 0) F dX12_readPlank_37 rfl rfl ?_
          refine a_iconst (pc := 38) F dX12_readPlank_38 kc_0 ?_
          refine a_bipush (pc := 39) F dX12_readPlank_39 kb_99 ?_
          obtain ⟨t27, ht27, hf⟩ := bd_some hf
          refine a_callV (pc := 41) (bs' := [bX12 y a0 t27.2]) (kb := 0) (j := 0) F [0] (c_X12_number l D y ek n a0 _ _ _ _ ht27) (cwV 2 F.1.2.2.2.2 (gV q6_200 q6_202 qs_35 q1_11 q6_203) rfl rfl rfl (by decide +kernel) ⟨Nat.le_of_ble_eq_true rfl, Nat.le_of_ble_eq_true rfl⟩) rfl rfl rfl rfl (by decide) rfl rfl rfl rfl rfl rfl (Nat.le_of_ble_eq_true rfl) ⟨Nat.zero_le _, Nat.zero_le _⟩ dX12_readPlank_41 ?_
          refine a_goto (pc := 44) (tgt := 48) F dX12_readPlank_44 (by decide) ?_
          obtain rfl := Option.some.inj hf
          exact J4
    · replace hf := it_neg h hf
      refine a_iconst (pc := 26) F dX12_readPlank_26 kc_0 ?_
      obtain rfl := Option.some.inj hf
      exact hret _ _ _ _ (Nat.zero_le _) (Nat.zero_le _) (z_nar (Or.inl rfl)) dX12_readPlank_27
  · replace hf := it_pos h hf
    refine a_iconst (pc := 10) F dX12_readPlank_10 kc_0 ?_
    obtain rfl := Option.some.inj hf
    exact hret _ _ _ _ (Nat.zero_le _) (Nat.zero_le _) (z_nar (Or.inl rfl)) dX12_readPlank_11

abbrev wX12_readHouse : List Cond := Cond.code yX12_readHouse cX12_readHouse 4 (some .boolean) :: WALL
def m_X12_readHouse (n : Nat) (v0 : St) (x1 : Int32) (x2 : Int32) : Option (Int32 × St) :=
bd (m_X12_houses n v0) (fun t1 =>
bd (m_X12_number n v0 0 (t1 - 1)) (fun t2 =>
jn (fun (t3 : St) =>
some (0, t3)) (fun (K3 : St → Option (Int32 × St)) =>
(if t2.1 < 0 then
K3 t2.2
else
bd (m_X12_houseAt n t2.1 x1) (fun t4 =>
bd (m_X12_readNumber n t2.2 t4 0 x2) (fun t5 =>
(if t5.1 = 0 then
K3 t5.2
else
some (1, t5.2))))))))
set_option maxHeartbeats 4000000 in
set_option maxRecDepth 100000 in
theorem c_X12_readHouse (l : Launch) (D : va_G) (y : Nat → ClassId) (ek : EK) (n : Nat) (a0 : Nat → Nat) (v0 : St) (x1 : Int32) (x2 : Int32) (res : Int32 × St) (hf : m_X12_readHouse n v0 x1 x2 = some res) : CI l yX12_readHouse wX12_readHouse { frames := 4, cells := 0, slots := 0, locals := 89 } D y ek [.ref (a0 0), .int x1, .int x2] [bX12 y a0 v0] (res.1) [bX12 y a0 res.2] 0 0 := by
  unfold m_X12_readHouse at hf
  refine ci_of (cc := cX12_readHouse) (maxL := 4) (by decide) rfl rfl (Nat.le_of_ble_eq_true rfl) ?_
  intro p e s m below meth c Q A F hret
  refine a_lv (lv' := [(0, .ref (a0 0)), (1, .int x1), (2, .int x2)]) rfl ?_
  refine a_aloadn (pc := 0) (j := 0) F dX12_readHouse_0 rfl rfl ?_
  refine a_iconst (pc := 1) F dX12_readHouse_1 kc_0 ?_
  refine a_aloadn (pc := 2) (j := 0) F dX12_readHouse_2 rfl rfl ?_
  obtain ⟨t1, ht1, hf⟩ := bd_some hf
  refine a_callV (pc := 3) (bs' := [bX12 y a0 v0]) (kb := 0) (j := 0) F [0] (c_X12_houses l D y ek n a0 _ _ ht1) (cwV 0 F.1.2.2.2.2 (gV q6_220 q6_222 qs_38 q1_11 q6_223) rfl rfl rfl (by decide +kernel) ⟨Nat.le_of_ble_eq_true rfl, Nat.le_of_ble_eq_true rfl⟩) rfl rfl rfl rfl (by decide) rfl rfl rfl rfl rfl rfl (Nat.le_of_ble_eq_true rfl) ⟨Nat.zero_le _, Nat.zero_le _⟩ dX12_readHouse_3 ?_
  refine a_iconst (pc := 6) F dX12_readHouse_6 kc_1 ?_
  refine a_isub (pc := 7) F dX12_readHouse_7 ?_
  obtain ⟨t2, ht2, hf⟩ := bd_some hf
  refine a_callV (pc := 8) (bs' := [bX12 y a0 t2.2]) (kb := 0) (j := 0) F [0] (c_X12_number l D y ek n a0 _ _ _ _ ht2) (cwV 2 F.1.2.2.2.2 (gV q6_200 q6_202 qs_35 q1_11 q6_203) rfl rfl rfl (by decide +kernel) ⟨Nat.le_of_ble_eq_true rfl, Nat.le_of_ble_eq_true rfl⟩) rfl rfl rfl rfl (by decide) rfl rfl rfl rfl rfl rfl (Nat.le_of_ble_eq_true rfl) ⟨Nat.zero_le _, Nat.zero_le _⟩ dX12_readHouse_8 ?_
  refine a_istoren (pc := 11) (lv' := [(0, .ref (a0 0)), (1, .int x1), (2, .int x2), (3, .int t2.1)]) F [1, 2, 3, 0] dX12_readHouse_11 rfl (by decide) rfl ?_
  refine a_iloadn (pc := 12) (j := 3) F dX12_readHouse_12 rfl rfl ?_
  refine a_jn 34 (fun (t3 : St) => []) (fun (t3 : St) => []) (fun (t3 : St) => [bX12 y a0 t3]) hf (fun t3 hf => ?_) (fun K3 hK3 hf => ?_)
  · try dsimp only at hf ⊢
    refine a_iconst (pc := 34) F dX12_readHouse_34 kc_0 ?_
    obtain rfl := Option.some.inj hf
    exact hret _ _ _ _ (Nat.zero_le _) (Nat.zero_le _) (z_nar (Or.inl rfl)) dX12_readHouse_35
  · try dsimp only at hf
    refine a_if_lt (pc := 13) (tgt := 34) F dX12_readHouse_13 (by decide) (fun h => ?_) (fun h => ?_)
    · replace hf := it_pos h hf
      refine a_sub [] rfl ?_
      exact hK3 t2.2 hf
    · replace hf := it_neg h hf
      refine a_aloadn (pc := 16) (j := 0) F dX12_readHouse_16 rfl rfl ?_
      refine a_iloadn (pc := 17) (j := 3) F dX12_readHouse_17 rfl rfl ?_
      refine a_iloadn (pc := 18) (j := 1) F dX12_readHouse_18 rfl rfl ?_
      obtain ⟨t4, ht4, hf⟩ := bd_some hf
      refine a_callS (pc := 19) (bs' := [bX12 y a0 t2.2]) F [] (c_X12_houseAt l D y ek n  _ _ _ ht4) (va_cwS 2 F.1.2.2.2.2 (gS q6_212 q6_213 q1_11 q6_214) rfl rfl rfl (by decide +kernel) ⟨Nat.le_of_ble_eq_true rfl, Nat.le_of_ble_eq_true rfl⟩) (by decide) rfl rfl rfl rfl rfl rfl (Nat.le_of_ble_eq_true rfl) ⟨Nat.zero_le _, Nat.zero_le _⟩ dX12_readHouse_19 ?_
      refine a_iconst (pc := 22) F dX12_readHouse_22 kc_0 ?_
      refine a_iloadn (pc := 23) (j := 2) F dX12_readHouse_23 rfl rfl ?_
      obtain ⟨t5, ht5, hf⟩ := bd_some hf
      refine a_callV (pc := 24) (bs' := [bX12 y a0 t5.2]) (kb := 0) (j := 0) F [0] (c_X12_readNumber l D y ek n a0 _ _ _ _ _ ht5) (cwV 3 F.1.2.2.2.2 (gV q6_224 q6_226 qs_39 q1_11 q6_227) rfl rfl rfl (by decide +kernel) ⟨Nat.le_of_ble_eq_true rfl, Nat.le_of_ble_eq_true rfl⟩) rfl rfl rfl rfl (by decide) rfl rfl rfl rfl rfl rfl (Nat.le_of_ble_eq_true rfl) ⟨Nat.zero_le _, Nat.zero_le _⟩ dX12_readHouse_24 ?_
      refine a_if_eq (pc := 27) (tgt := 34) F dX12_readHouse_27 (by decide) (fun h => ?_) (fun h => ?_)
      · replace hf := it_pos h hf
        refine a_sub [] rfl ?_
        exact hK3 t5.2 hf
      · replace hf := it_neg h hf
        refine a_iconst (pc := 30) F dX12_readHouse_30 kc_1 ?_
        refine a_goto (pc := 31) (tgt := 35) F dX12_readHouse_31 (by decide) ?_
        obtain rfl := Option.some.inj hf
        exact hret _ _ _ _ (Nat.zero_le _) (Nat.zero_le _) (z_nar (Or.inr rfl)) dX12_readHouse_35

abbrev wX12_readThing : List Cond := Cond.code yX12_readThing cX12_readThing 5 (some .boolean) :: WALL
def m_X12_readThing (n : Nat) (v0 : St) : Option (Int32 × St) :=
bd (m_X12_things n v0) (fun t1 =>
(if t1 = 10 then
some (0, v0)
else
bd (m_X12_number n v0 1 60) (fun t2 =>
bd ((if 0 ≤ t2.1 then
bd (m_X12_after n t2.2 2 0 99) (fun t17 =>
some (t17.1, t17.2))
else
some ((-1), t2.2))) (fun (t3 : Int32 × St) =>
bd ((if 0 ≤ t3.1 then
bd (m_X12_houses n t3.2) (fun t15 =>
bd (m_X12_after n t3.2 3 0 (t15 - 1)) (fun t16 =>
some (t16.1, t16.2)))
else
some ((-1), t3.2))) (fun (t4 : Int32 × St) =>
(if 0 ≤ t4.1 then
bd (m_X12_thingAt n t1 0) (fun t5 =>
(if ix t5 2080 then nm (su t4.2 1 (t5).toNatClampNeg t2.1) (fun u7 =>
bd (m_X12_thingAt n t1 1) (fun t8 =>
(if ix t8 2080 then nm (su u7 1 (t8).toNatClampNeg t3.1) (fun u10 =>
bd (m_X12_thingAt n t1 2) (fun t11 =>
(if ix t11 2080 then nm (su u10 1 (t11).toNatClampNeg t4.1) (fun u13 =>
nm (su u13 1 1 ((u13 1 1) + 1)) (fun u14 =>
some (1, u14))) else none))) else none))) else none))
else
some (0, t4.2)))))))
set_option maxHeartbeats 4000000 in
set_option maxRecDepth 100000 in
theorem c_X12_readThing (l : Launch) (D : va_G) (y : Nat → ClassId) (ek : EK) (n : Nat) (a0 : Nat → Nat) (v0 : St) (res : Int32 × St) (hf : m_X12_readThing n v0 = some res) : CI l yX12_readThing wX12_readThing { frames := 6, cells := 0, slots := 0, locals := 131 } D y ek [.ref (a0 0)] [bX12 y a0 v0] (res.1) [bX12 y a0 res.2] 0 0 := by
  unfold m_X12_readThing at hf
  refine ci_of (cc := cX12_readThing) (maxL := 5) (by decide) rfl rfl (Nat.le_of_ble_eq_true rfl) ?_
  intro p e s m below meth c Q A F hret
  refine a_lv (lv' := [(0, .ref (a0 0))]) rfl ?_
  refine a_aloadn (pc := 0) (j := 0) F dX12_readThing_0 rfl rfl ?_
  obtain ⟨t1, ht1, hf⟩ := bd_some hf
  refine a_callV (pc := 1) (bs' := [bX12 y a0 v0]) (kb := 0) (j := 0) F [0] (c_X12_things l D y ek n a0 _ _ ht1) (cwV 0 F.1.2.2.2.2 (gV q6_234 q6_236 qs_41 q1_11 q6_237) rfl rfl rfl (by decide +kernel) ⟨Nat.le_of_ble_eq_true rfl, Nat.le_of_ble_eq_true rfl⟩) rfl rfl rfl rfl (by decide) rfl rfl rfl rfl rfl rfl (Nat.le_of_ble_eq_true rfl) ⟨Nat.zero_le _, Nat.zero_le _⟩ dX12_readThing_1 ?_
  refine a_istoren (pc := 4) (lv' := [(0, .ref (a0 0)), (1, .int t1)]) F [1, 0] dX12_readThing_4 rfl (by decide) rfl ?_
  refine a_iloadn (pc := 5) (j := 1) F dX12_readThing_5 rfl rfl ?_
  refine a_bipush (pc := 6) F dX12_readThing_6 kb_10 ?_
  refine a_icmp_ne (pc := 8) (tgt := 13) F dX12_readThing_8 (by decide) (fun h => ?_) (fun h => ?_)
  · replace hf := it_neg h hf
    refine a_aloadn (pc := 13) (j := 0) F dX12_readThing_13 rfl rfl ?_
    refine a_iconst (pc := 14) F dX12_readThing_14 kc_1 ?_
    refine a_bipush (pc := 15) F dX12_readThing_15 kb_60 ?_
    obtain ⟨t2, ht2, hf⟩ := bd_some hf
    refine a_callV (pc := 17) (bs' := [bX12 y a0 t2.2]) (kb := 0) (j := 0) F [0] (c_X12_number l D y ek n a0 _ _ _ _ ht2) (cwV 2 F.1.2.2.2.2 (gV q6_200 q6_202 qs_35 q1_11 q6_203) rfl rfl rfl (by decide +kernel) ⟨Nat.le_of_ble_eq_true rfl, Nat.le_of_ble_eq_true rfl⟩) rfl rfl rfl rfl (by decide) rfl rfl rfl rfl rfl rfl (Nat.le_of_ble_eq_true rfl) ⟨Nat.zero_le _, Nat.zero_le _⟩ dX12_readThing_17 ?_
    refine a_istoren (pc := 20) (lv' := [(0, .ref (a0 0)), (1, .int t1), (2, .int t2.1)]) F [1, 2, 0] dX12_readThing_20 rfl (by decide) rfl ?_
    refine a_iloadn (pc := 21) (j := 2) F dX12_readThing_21 rfl rfl ?_
    refine a_join 38 (fun (t3 : Int32 × St) => [(0, .ref (a0 0)), (1, .int t1), (2, .int t2.1)]) (fun (t3 : Int32 × St) => [.int t3.1]) (fun (t3 : Int32 × St) => [bX12 y a0 t3.2]) hf (fun t3 hf => ?_) (fun t3 hf J3 => ?_)
    · try dsimp only at hf ⊢
      refine a_istoren (pc := 38) (lv' := [(0, .ref (a0 0)), (1, .int t1), (2, .int t2.1), (3, .int t3.1)]) F [1, 2, 3, 0] dX12_readThing_38 rfl (by decide) rfl ?_
      refine a_iloadn (pc := 39) (j := 3) F dX12_readThing_39 rfl rfl ?_
      refine a_join 60 (fun (t4 : Int32 × St) => [(0, .ref (a0 0)), (1, .int t1), (2, .int t2.1), (3, .int t3.1)]) (fun (t4 : Int32 × St) => [.int t4.1]) (fun (t4 : Int32 × St) => [bX12 y a0 t4.2]) hf (fun t4 hf => ?_) (fun t4 hf J4 => ?_)
      · try dsimp only at hf ⊢
        refine a_istore (pc := 60) (lv' := [(0, .ref (a0 0)), (1, .int t1), (2, .int t2.1), (3, .int t3.1), (4, .int t4.1)]) F [1, 2, 3, 4, 0] dX12_readThing_60 (by decide) rfl ?_
        refine a_iload (pc := 62) (j := 4) F dX12_readThing_62 rfl ?_
        refine a_if_ge (pc := 64) (tgt := 69) F dX12_readThing_64 (by decide) (fun h => ?_) (fun h => ?_)
        · replace hf := it_pos h hf
          refine a_aloadn (pc := 69) (j := 0) F dX12_readThing_69 rfl rfl ?_
          refine a_get (pc := 70) (kb := 0) (j := 0) (f := 1) F iW_X12 rfl rfl rfl (by decide) (tl q6_69) (fun _ h => h) rfl dX12_readThing_70 ?_
          refine a_iloadn (pc := 73) (j := 1) F dX12_readThing_73 rfl rfl ?_
          refine a_iconst (pc := 74) F dX12_readThing_74 kc_0 ?_
          obtain ⟨t5, ht5, hf⟩ := bd_some hf
          refine a_callS (pc := 75) (bs' := [bX12 y a0 t4.2]) F [] (c_X12_thingAt l D y ek n  _ _ _ ht5) (va_cwS 2 F.1.2.2.2.2 (gS q7_4 q7_5 q1_11 q7_6) rfl rfl rfl (by decide +kernel) ⟨Nat.le_of_ble_eq_true rfl, Nat.le_of_ble_eq_true rfl⟩) (by decide) rfl rfl rfl rfl rfl rfl (Nat.le_of_ble_eq_true rfl) ⟨Nat.zero_le _, Nat.zero_le _⟩ dX12_readThing_75 ?_
          refine a_iloadn (pc := 78) (j := 2) F dX12_readThing_78 rfl rfl ?_
          obtain ⟨h6, hf⟩ := gd_some hf
          obtain ⟨u7, eu7, hf⟩ := nm_some hf
          refine a_iast (pc := 79) (kb := 0) (j := 1) (bs' := [bX12 y a0 u7]) F rfl rfl h6 (by rw [eu7]; rfl) dX12_readThing_79 ?_
          refine a_aloadn (pc := 80) (j := 0) F dX12_readThing_80 rfl rfl ?_
          refine a_get (pc := 81) (kb := 0) (j := 0) (f := 1) F iW_X12 rfl rfl rfl (by decide) (tl q6_69) (fun _ h => h) rfl dX12_readThing_81 ?_
          refine a_iloadn (pc := 84) (j := 1) F dX12_readThing_84 rfl rfl ?_
          refine a_iconst (pc := 85) F dX12_readThing_85 kc_1 ?_
          obtain ⟨t8, ht8, hf⟩ := bd_some hf
          refine a_callS (pc := 86) (bs' := [bX12 y a0 u7]) F [] (c_X12_thingAt l D y ek n  _ _ _ ht8) (va_cwS 2 F.1.2.2.2.2 (gS q7_4 q7_5 q1_11 q7_6) rfl rfl rfl (by decide +kernel) ⟨Nat.le_of_ble_eq_true rfl, Nat.le_of_ble_eq_true rfl⟩) (by decide) rfl rfl rfl rfl rfl rfl (Nat.le_of_ble_eq_true rfl) ⟨Nat.zero_le _, Nat.zero_le _⟩ dX12_readThing_86 ?_
          refine a_iloadn (pc := 89) (j := 3) F dX12_readThing_89 rfl rfl ?_
          obtain ⟨h9, hf⟩ := gd_some hf
          obtain ⟨u10, eu10, hf⟩ := nm_some hf
          refine a_iast (pc := 90) (kb := 0) (j := 1) (bs' := [bX12 y a0 u10]) F rfl rfl h9 (by rw [eu10]; rfl) dX12_readThing_90 ?_
          refine a_aloadn (pc := 91) (j := 0) F dX12_readThing_91 rfl rfl ?_
          refine a_get (pc := 92) (kb := 0) (j := 0) (f := 1) F iW_X12 rfl rfl rfl (by decide) (tl q6_69) (fun _ h => h) rfl dX12_readThing_92 ?_
          refine a_iloadn (pc := 95) (j := 1) F dX12_readThing_95 rfl rfl ?_
          refine a_iconst (pc := 96) F dX12_readThing_96 kc_2 ?_
          obtain ⟨t11, ht11, hf⟩ := bd_some hf
          refine a_callS (pc := 97) (bs' := [bX12 y a0 u10]) F [] (c_X12_thingAt l D y ek n  _ _ _ ht11) (va_cwS 2 F.1.2.2.2.2 (gS q7_4 q7_5 q1_11 q7_6) rfl rfl rfl (by decide +kernel) ⟨Nat.le_of_ble_eq_true rfl, Nat.le_of_ble_eq_true rfl⟩) (by decide) rfl rfl rfl rfl rfl rfl (Nat.le_of_ble_eq_true rfl) ⟨Nat.zero_le _, Nat.zero_le _⟩ dX12_readThing_97 ?_
          refine a_iload (pc := 100) (j := 4) F dX12_readThing_100 rfl ?_
          obtain ⟨h12, hf⟩ := gd_some hf
          obtain ⟨u13, eu13, hf⟩ := nm_some hf
          refine a_iast (pc := 102) (kb := 0) (j := 1) (bs' := [bX12 y a0 u13]) F rfl rfl h12 (by rw [eu13]; rfl) dX12_readThing_102 ?_
          refine a_aloadn (pc := 103) (j := 0) F dX12_readThing_103 rfl rfl ?_
          refine a_get (pc := 104) (kb := 0) (j := 0) (f := 1) F iW_X12 rfl rfl rfl (by decide) (tl q6_69) (fun _ h => h) rfl dX12_readThing_104 ?_
          refine a_iconst (pc := 107) F dX12_readThing_107 kc_1 ?_
          refine a_dup2 (pc := 108) F dX12_readThing_108 rfl rfl ?_
          refine a_ialdc (pc := 109) (kb := 0) (j := 1) (k := 1) F rfl rfl (by decide) (by decide) dX12_readThing_109 ?_
          refine a_iconst (pc := 110) F dX12_readThing_110 kc_1 ?_
          refine a_iadd (pc := 111) F dX12_readThing_111 ?_
          obtain ⟨u14, eu14, hf⟩ := nm_some hf
          refine a_iastc (pc := 112) (kb := 0) (j := 1) (k := 1) (bs' := [bX12 y a0 u14]) F rfl rfl (by decide) (by decide) (by rw [eu14]; rfl) dX12_readThing_112 ?_
          refine a_iconst (pc := 113) F dX12_readThing_113 kc_1 ?_
          obtain rfl := Option.some.inj hf
          exact hret _ _ _ _ (Nat.zero_le _) (Nat.zero_le _) (z_nar (Or.inr rfl)) dX12_readThing_114
        · replace hf := it_neg h hf
          refine a_iconst (pc := 67) F dX12_readThing_67 kc_0 ?_
          obtain rfl := Option.some.inj hf
          exact hret _ _ _ _ (Nat.zero_le _) (Nat.zero_le _) (z_nar (Or.inl rfl)) dX12_readThing_68
      · refine a_if_ge (pc := 40) (tgt := 47) F dX12_readThing_40 (by decide) (fun h => ?_) (fun h => ?_)
        · replace hf := it_pos h hf
          refine a_aloadn (pc := 47) (j := 0) F dX12_readThing_47 rfl rfl ?_
          refine a_ldcS (pc := 48) (tx := "in") F 3 rfl dX12_readThing_48 ?_
          refine a_iconst (pc := 50) F dX12_readThing_50 kc_0 ?_
          refine a_aloadn (pc := 51) (j := 0) F dX12_readThing_51 rfl rfl ?_
          obtain ⟨t15, ht15, hf⟩ := bd_some hf
          refine a_callV (pc := 52) (bs' := [bX12 y a0 t3.2]) (kb := 0) (j := 0) F [0] (c_X12_houses l D y ek n a0 _ _ ht15) (cwV 0 F.1.2.2.2.2 (gV q6_220 q6_222 qs_38 q1_11 q6_223) rfl rfl rfl (by decide +kernel) ⟨Nat.le_of_ble_eq_true rfl, Nat.le_of_ble_eq_true rfl⟩) rfl rfl rfl rfl (by decide) rfl rfl rfl rfl rfl rfl (Nat.le_of_ble_eq_true rfl) ⟨Nat.zero_le _, Nat.zero_le _⟩ dX12_readThing_52 ?_
          refine a_iconst (pc := 55) F dX12_readThing_55 kc_1 ?_
          refine a_isub (pc := 56) F dX12_readThing_56 ?_
          obtain ⟨t16, ht16, hf⟩ := bd_some hf
          refine a_callV (pc := 57) (bs' := [bX12 y a0 t16.2]) (kb := 0) (j := 0) F [0] (c_X12_after l D y ek n a0 _ _ _ _ _ ht16) (cwV 3 F.1.2.2.2.2 (gV q6_239 q7_1 qs_42 q1_11 q7_2) rfl rfl rfl (by decide +kernel) ⟨Nat.le_of_ble_eq_true rfl, Nat.le_of_ble_eq_true rfl⟩) rfl rfl rfl rfl (by decide) rfl rfl rfl rfl rfl rfl (Nat.le_of_ble_eq_true rfl) ⟨Nat.zero_le _, Nat.zero_le _⟩ dX12_readThing_57 ?_
          obtain rfl := Option.some.inj hf
          exact J4
        · replace hf := it_neg h hf
          refine a_iconst (pc := 43) F dX12_readThing_43 kc_m1 ?_
          refine a_goto (pc := 44) (tgt := 60) F dX12_readThing_44 (by decide) ?_
          obtain rfl := Option.some.inj hf
          exact J4
    · refine a_if_ge (pc := 22) (tgt := 29) F dX12_readThing_22 (by decide) (fun h => ?_) (fun h => ?_)
      · replace hf := it_pos h hf
        refine a_aloadn (pc := 29) (j := 0) F dX12_readThing_29 rfl rfl ?_
        refine a_ldcS (pc := 30) (tx := "worth") F 2 rfl dX12_readThing_30 ?_
        refine a_iconst (pc := 32) F dX12_readThing_32 kc_0 ?_
        refine a_bipush (pc := 33) F dX12_readThing_33 kb_99 ?_
        obtain ⟨t17, ht17, hf⟩ := bd_some hf
        refine a_callV (pc := 35) (bs' := [bX12 y a0 t17.2]) (kb := 0) (j := 0) F [0] (c_X12_after l D y ek n a0 _ _ _ _ _ ht17) (cwV 3 F.1.2.2.2.2 (gV q6_239 q7_1 qs_42 q1_11 q7_2) rfl rfl rfl (by decide +kernel) ⟨Nat.le_of_ble_eq_true rfl, Nat.le_of_ble_eq_true rfl⟩) rfl rfl rfl rfl (by decide) rfl rfl rfl rfl rfl rfl (Nat.le_of_ble_eq_true rfl) ⟨Nat.zero_le _, Nat.zero_le _⟩ dX12_readThing_35 ?_
        obtain rfl := Option.some.inj hf
        exact J3
      · replace hf := it_neg h hf
        refine a_iconst (pc := 25) F dX12_readThing_25 kc_m1 ?_
        refine a_goto (pc := 26) (tgt := 38) F dX12_readThing_26 (by decide) ?_
        obtain rfl := Option.some.inj hf
        exact J3
  · replace hf := it_pos h hf
    refine a_iconst (pc := 11) F dX12_readThing_11 kc_0 ?_
    obtain rfl := Option.some.inj hf
    exact hret _ _ _ _ (Nat.zero_le _) (Nat.zero_le _) (z_nar (Or.inl rfl)) dX12_readThing_12

abbrev wX12_readHillLine : List Cond := Cond.code yX12_readHillLine cX12_readHillLine 1 (some .boolean) :: WALL
def m_X12_readHillLine (n : Nat) (v0 : St) : Option (Int32 × St) :=
bd (m_X12_isWord n v0 4) (fun t1 =>
(if t1 = 0 then
bd (m_X12_isWord n v0 5) (fun t2 =>
(if t2 = 0 then
bd (m_X12_isWord n v0 6) (fun t3 =>
(if t3 = 0 then
bd (m_X12_isWord n v0 7) (fun t4 =>
(if t4 = 0 then
bd (m_X12_isWord n v0 8) (fun t5 =>
(if t5 = 0 then
bd (m_X12_isWord n v0 9) (fun t6 =>
(if t6 = 0 then
bd (m_X12_isWord n v0 10) (fun t7 =>
(if t7 = 0 then
bd (m_X12_isWord n v0 11) (fun t8 =>
(if t8 = 0 then
bd (m_X12_isWord n v0 12) (fun t9 =>
jn (fun (t10 : St) =>
some (0, t10)) (fun (K10 : St → Option (Int32 × St)) =>
(if t9 = 0 then
K10 v0
else
bd (m_X12_readNumber n v0 9 0 99) (fun t11 =>
(if t11.1 = 0 then
K10 t11.2
else
some (1, t11.2))))))
else
bd (m_X12_readNumber n v0 8 0 100) (fun t12 =>
(if isb t12.1 then some (t12.1, t12.2) else none))))
else
bd (m_X12_readNumber n v0 7 0 100) (fun t13 =>
(if isb t13.1 then some (t13.1, t13.2) else none))))
else
bd (m_X12_readNumber n v0 6 1 40) (fun t14 =>
(if isb t14.1 then some (t14.1, t14.2) else none))))
else
bd (m_X12_readNumber n v0 5 0 99) (fun t15 =>
(if isb t15.1 then some (t15.1, t15.2) else none))))
else
bd (m_X12_readThing n v0) (fun t16 =>
(if isb t16.1 then some (t16.1, t16.2) else none))))
else
bd (m_X12_readHouse n v0 1 9) (fun t17 =>
(if isb t17.1 then some (t17.1, t17.2) else none))))
else
bd (m_X12_readHouse n v0 0 999) (fun t18 =>
(if isb t18.1 then some (t18.1, t18.2) else none))))
else
bd (m_X12_readPlank n v0) (fun t19 =>
(if isb t19.1 then some (t19.1, t19.2) else none))))
set_option maxHeartbeats 4000000 in
set_option maxRecDepth 100000 in
theorem c_X12_readHillLine (l : Launch) (D : va_G) (y : Nat → ClassId) (ek : EK) (n : Nat) (a0 : Nat → Nat) (v0 : St) (res : Int32 × St) (hf : m_X12_readHillLine n v0 = some res) : CI l yX12_readHillLine wX12_readHillLine { frames := 7, cells := 0, slots := 0, locals := 155 } D y ek [.ref (a0 0)] [bX12 y a0 v0] (res.1) [bX12 y a0 res.2] 0 0 := by
  unfold m_X12_readHillLine at hf
  refine ci_of (cc := cX12_readHillLine) (maxL := 1) (by decide) rfl rfl (Nat.le_of_ble_eq_true rfl) ?_
  intro p e s m below meth c Q A F hret
  refine a_lv (lv' := [(0, .ref (a0 0))]) rfl ?_
  refine a_aloadn (pc := 0) (j := 0) F dX12_readHillLine_0 rfl rfl ?_
  refine a_ldcS (pc := 1) (tx := "plank") F 4 rfl dX12_readHillLine_1 ?_
  obtain ⟨t1, ht1, hf⟩ := bd_some hf
  refine a_callV (pc := 3) (bs' := [bX12 y a0 v0]) (kb := 0) (j := 0) F [0] (c_X12_isWord l D y ek n a0 _ _ _ ht1) (cwV 1 F.1.2.2.2.2 (gV q6_186 q6_188 qs_32 q1_11 q6_189) rfl rfl rfl (by decide +kernel) ⟨Nat.le_of_ble_eq_true rfl, Nat.le_of_ble_eq_true rfl⟩) rfl rfl rfl rfl (by decide) rfl rfl rfl rfl rfl rfl (Nat.le_of_ble_eq_true rfl) ⟨Nat.zero_le _, Nat.zero_le _⟩ dX12_readHillLine_3 ?_
  refine a_if_eq (pc := 6) (tgt := 14) F dX12_readHillLine_6 (by decide) (fun h => ?_) (fun h => ?_)
  · replace hf := it_pos h hf
    refine a_aloadn (pc := 14) (j := 0) F dX12_readHillLine_14 rfl rfl ?_
    refine a_ldcS (pc := 15) (tx := "purse") F 5 rfl dX12_readHillLine_15 ?_
    obtain ⟨t2, ht2, hf⟩ := bd_some hf
    refine a_callV (pc := 17) (bs' := [bX12 y a0 v0]) (kb := 0) (j := 0) F [0] (c_X12_isWord l D y ek n a0 _ _ _ ht2) (cwV 1 F.1.2.2.2.2 (gV q6_186 q6_188 qs_32 q1_11 q6_189) rfl rfl rfl (by decide +kernel) ⟨Nat.le_of_ble_eq_true rfl, Nat.le_of_ble_eq_true rfl⟩) rfl rfl rfl rfl (by decide) rfl rfl rfl rfl rfl rfl (Nat.le_of_ble_eq_true rfl) ⟨Nat.zero_le _, Nat.zero_le _⟩ dX12_readHillLine_17 ?_
    refine a_if_eq (pc := 20) (tgt := 32) F dX12_readHillLine_20 (by decide) (fun h => ?_) (fun h => ?_)
    · replace hf := it_pos h hf
      refine a_aloadn (pc := 32) (j := 0) F dX12_readHillLine_32 rfl rfl ?_
      refine a_ldcS (pc := 33) (tx := "guests") F 6 rfl dX12_readHillLine_33 ?_
      obtain ⟨t3, ht3, hf⟩ := bd_some hf
      refine a_callV (pc := 35) (bs' := [bX12 y a0 v0]) (kb := 0) (j := 0) F [0] (c_X12_isWord l D y ek n a0 _ _ _ ht3) (cwV 1 F.1.2.2.2.2 (gV q6_186 q6_188 qs_32 q1_11 q6_189) rfl rfl rfl (by decide +kernel) ⟨Nat.le_of_ble_eq_true rfl, Nat.le_of_ble_eq_true rfl⟩) rfl rfl rfl rfl (by decide) rfl rfl rfl rfl rfl rfl (Nat.le_of_ble_eq_true rfl) ⟨Nat.zero_le _, Nat.zero_le _⟩ dX12_readHillLine_35 ?_
      refine a_if_eq (pc := 38) (tgt := 49) F dX12_readHillLine_38 (by decide) (fun h => ?_) (fun h => ?_)
      · replace hf := it_pos h hf
        refine a_aloadn (pc := 49) (j := 0) F dX12_readHillLine_49 rfl rfl ?_
        refine a_ldcS (pc := 50) (tx := "thing") F 7 rfl dX12_readHillLine_50 ?_
        obtain ⟨t4, ht4, hf⟩ := bd_some hf
        refine a_callV (pc := 52) (bs' := [bX12 y a0 v0]) (kb := 0) (j := 0) F [0] (c_X12_isWord l D y ek n a0 _ _ _ ht4) (cwV 1 F.1.2.2.2.2 (gV q6_186 q6_188 qs_32 q1_11 q6_189) rfl rfl rfl (by decide +kernel) ⟨Nat.le_of_ble_eq_true rfl, Nat.le_of_ble_eq_true rfl⟩) rfl rfl rfl rfl (by decide) rfl rfl rfl rfl rfl rfl (Nat.le_of_ble_eq_true rfl) ⟨Nat.zero_le _, Nat.zero_le _⟩ dX12_readHillLine_52 ?_
        refine a_if_eq (pc := 55) (tgt := 63) F dX12_readHillLine_55 (by decide) (fun h => ?_) (fun h => ?_)
        · replace hf := it_pos h hf
          refine a_aloadn (pc := 63) (j := 0) F dX12_readHillLine_63 rfl rfl ?_
          refine a_ldcS (pc := 64) (tx := "snow") F 8 rfl dX12_readHillLine_64 ?_
          obtain ⟨t5, ht5, hf⟩ := bd_some hf
          refine a_callV (pc := 66) (bs' := [bX12 y a0 v0]) (kb := 0) (j := 0) F [0] (c_X12_isWord l D y ek n a0 _ _ _ ht5) (cwV 1 F.1.2.2.2.2 (gV q6_186 q6_188 qs_32 q1_11 q6_189) rfl rfl rfl (by decide +kernel) ⟨Nat.le_of_ble_eq_true rfl, Nat.le_of_ble_eq_true rfl⟩) rfl rfl rfl rfl (by decide) rfl rfl rfl rfl rfl rfl (Nat.le_of_ble_eq_true rfl) ⟨Nat.zero_le _, Nat.zero_le _⟩ dX12_readHillLine_66 ?_
          refine a_if_eq (pc := 69) (tgt := 81) F dX12_readHillLine_69 (by decide) (fun h => ?_) (fun h => ?_)
          · replace hf := it_pos h hf
            refine a_aloadn (pc := 81) (j := 0) F dX12_readHillLine_81 rfl rfl ?_
            refine a_ldcS (pc := 82) (tx := "step") F 9 rfl dX12_readHillLine_82 ?_
            obtain ⟨t6, ht6, hf⟩ := bd_some hf
            refine a_callV (pc := 84) (bs' := [bX12 y a0 v0]) (kb := 0) (j := 0) F [0] (c_X12_isWord l D y ek n a0 _ _ _ ht6) (cwV 1 F.1.2.2.2.2 (gV q6_186 q6_188 qs_32 q1_11 q6_189) rfl rfl rfl (by decide +kernel) ⟨Nat.le_of_ble_eq_true rfl, Nat.le_of_ble_eq_true rfl⟩) rfl rfl rfl rfl (by decide) rfl rfl rfl rfl rfl rfl (Nat.le_of_ble_eq_true rfl) ⟨Nat.zero_le _, Nat.zero_le _⟩ dX12_readHillLine_84 ?_
            refine a_if_eq (pc := 87) (tgt := 100) F dX12_readHillLine_87 (by decide) (fun h => ?_) (fun h => ?_)
            · replace hf := it_pos h hf
              refine a_aloadn (pc := 100) (j := 0) F dX12_readHillLine_100 rfl rfl ?_
              refine a_ldcS (pc := 101) (tx := "fall") F 10 rfl dX12_readHillLine_101 ?_
              obtain ⟨t7, ht7, hf⟩ := bd_some hf
              refine a_callV (pc := 103) (bs' := [bX12 y a0 v0]) (kb := 0) (j := 0) F [0] (c_X12_isWord l D y ek n a0 _ _ _ ht7) (cwV 1 F.1.2.2.2.2 (gV q6_186 q6_188 qs_32 q1_11 q6_189) rfl rfl rfl (by decide +kernel) ⟨Nat.le_of_ble_eq_true rfl, Nat.le_of_ble_eq_true rfl⟩) rfl rfl rfl rfl (by decide) rfl rfl rfl rfl rfl rfl (Nat.le_of_ble_eq_true rfl) ⟨Nat.zero_le _, Nat.zero_le _⟩ dX12_readHillLine_103 ?_
              refine a_if_eq (pc := 106) (tgt := 119) F dX12_readHillLine_106 (by decide) (fun h => ?_) (fun h => ?_)
              · replace hf := it_pos h hf
                refine a_aloadn (pc := 119) (j := 0) F dX12_readHillLine_119 rfl rfl ?_
                refine a_ldcS (pc := 120) (tx := "thieves") F 11 rfl dX12_readHillLine_120 ?_
                obtain ⟨t8, ht8, hf⟩ := bd_some hf
                refine a_callV (pc := 122) (bs' := [bX12 y a0 v0]) (kb := 0) (j := 0) F [0] (c_X12_isWord l D y ek n a0 _ _ _ ht8) (cwV 1 F.1.2.2.2.2 (gV q6_186 q6_188 qs_32 q1_11 q6_189) rfl rfl rfl (by decide +kernel) ⟨Nat.le_of_ble_eq_true rfl, Nat.le_of_ble_eq_true rfl⟩) rfl rfl rfl rfl (by decide) rfl rfl rfl rfl rfl rfl (Nat.le_of_ble_eq_true rfl) ⟨Nat.zero_le _, Nat.zero_le _⟩ dX12_readHillLine_122 ?_
                refine a_if_eq (pc := 125) (tgt := 138) F dX12_readHillLine_125 (by decide) (fun h => ?_) (fun h => ?_)
                · replace hf := it_pos h hf
                  refine a_aloadn (pc := 138) (j := 0) F dX12_readHillLine_138 rfl rfl ?_
                  refine a_ldcS (pc := 139) (tx := "fee") F 12 rfl dX12_readHillLine_139 ?_
                  obtain ⟨t9, ht9, hf⟩ := bd_some hf
                  refine a_callV (pc := 141) (bs' := [bX12 y a0 v0]) (kb := 0) (j := 0) F [0] (c_X12_isWord l D y ek n a0 _ _ _ ht9) (cwV 1 F.1.2.2.2.2 (gV q6_186 q6_188 qs_32 q1_11 q6_189) rfl rfl rfl (by decide +kernel) ⟨Nat.le_of_ble_eq_true rfl, Nat.le_of_ble_eq_true rfl⟩) rfl rfl rfl rfl (by decide) rfl rfl rfl rfl rfl rfl (Nat.le_of_ble_eq_true rfl) ⟨Nat.zero_le _, Nat.zero_le _⟩ dX12_readHillLine_141 ?_
                  refine a_jn 163 (fun (t10 : St) => []) (fun (t10 : St) => []) (fun (t10 : St) => [bX12 y a0 t10]) hf (fun t10 hf => ?_) (fun K10 hK10 hf => ?_)
                  · try dsimp only at hf ⊢
                    refine a_iconst (pc := 163) F dX12_readHillLine_163 kc_0 ?_
                    obtain rfl := Option.some.inj hf
                    exact hret _ _ _ _ (Nat.zero_le _) (Nat.zero_le _) (z_nar (Or.inl rfl)) dX12_readHillLine_164
                  · try dsimp only at hf
                    refine a_if_eq (pc := 144) (tgt := 163) F dX12_readHillLine_144 (by decide) (fun h => ?_) (fun h => ?_)
                    · replace hf := it_pos h hf
                      refine a_sub [] rfl ?_
                      exact hK10 v0 hf
                    · replace hf := it_neg h hf
                      refine a_aloadn (pc := 147) (j := 0) F dX12_readHillLine_147 rfl rfl ?_
                      refine a_bipush (pc := 148) F dX12_readHillLine_148 kb_9 ?_
                      refine a_iconst (pc := 150) F dX12_readHillLine_150 kc_0 ?_
                      refine a_bipush (pc := 151) F dX12_readHillLine_151 kb_99 ?_
                      obtain ⟨t11, ht11, hf⟩ := bd_some hf
                      refine a_callV (pc := 153) (bs' := [bX12 y a0 t11.2]) (kb := 0) (j := 0) F [0] (c_X12_readNumber l D y ek n a0 _ _ _ _ _ ht11) (cwV 3 F.1.2.2.2.2 (gV q6_224 q6_226 qs_39 q1_11 q6_227) rfl rfl rfl (by decide +kernel) ⟨Nat.le_of_ble_eq_true rfl, Nat.le_of_ble_eq_true rfl⟩) rfl rfl rfl rfl (by decide) rfl rfl rfl rfl rfl rfl (Nat.le_of_ble_eq_true rfl) ⟨Nat.zero_le _, Nat.zero_le _⟩ dX12_readHillLine_153 ?_
                      refine a_if_eq (pc := 156) (tgt := 163) F dX12_readHillLine_156 (by decide) (fun h => ?_) (fun h => ?_)
                      · replace hf := it_pos h hf
                        refine a_sub [] rfl ?_
                        exact hK10 t11.2 hf
                      · replace hf := it_neg h hf
                        refine a_iconst (pc := 159) F dX12_readHillLine_159 kc_1 ?_
                        refine a_goto (pc := 160) (tgt := 164) F dX12_readHillLine_160 (by decide) ?_
                        obtain rfl := Option.some.inj hf
                        exact hret _ _ _ _ (Nat.zero_le _) (Nat.zero_le _) (z_nar (Or.inr rfl)) dX12_readHillLine_164
                · replace hf := it_neg h hf
                  refine a_aloadn (pc := 128) (j := 0) F dX12_readHillLine_128 rfl rfl ?_
                  refine a_bipush (pc := 129) F dX12_readHillLine_129 kb_8 ?_
                  refine a_iconst (pc := 131) F dX12_readHillLine_131 kc_0 ?_
                  refine a_bipush (pc := 132) F dX12_readHillLine_132 kb_100 ?_
                  obtain ⟨t12, ht12, hf⟩ := bd_some hf
                  refine a_callV (pc := 134) (bs' := [bX12 y a0 t12.2]) (kb := 0) (j := 0) F [0] (c_X12_readNumber l D y ek n a0 _ _ _ _ _ ht12) (cwV 3 F.1.2.2.2.2 (gV q6_224 q6_226 qs_39 q1_11 q6_227) rfl rfl rfl (by decide +kernel) ⟨Nat.le_of_ble_eq_true rfl, Nat.le_of_ble_eq_true rfl⟩) rfl rfl rfl rfl (by decide) rfl rfl rfl rfl rfl rfl (Nat.le_of_ble_eq_true rfl) ⟨Nat.zero_le _, Nat.zero_le _⟩ dX12_readHillLine_134 ?_
                  obtain ⟨hz, hf⟩ := gd_some hf
                  obtain rfl := Option.some.inj hf
                  exact hret _ _ _ _ (Nat.zero_le _) (Nat.zero_le _) (z_nar hz) dX12_readHillLine_137
              · replace hf := it_neg h hf
                refine a_aloadn (pc := 109) (j := 0) F dX12_readHillLine_109 rfl rfl ?_
                refine a_bipush (pc := 110) F dX12_readHillLine_110 kb_7 ?_
                refine a_iconst (pc := 112) F dX12_readHillLine_112 kc_0 ?_
                refine a_bipush (pc := 113) F dX12_readHillLine_113 kb_100 ?_
                obtain ⟨t13, ht13, hf⟩ := bd_some hf
                refine a_callV (pc := 115) (bs' := [bX12 y a0 t13.2]) (kb := 0) (j := 0) F [0] (c_X12_readNumber l D y ek n a0 _ _ _ _ _ ht13) (cwV 3 F.1.2.2.2.2 (gV q6_224 q6_226 qs_39 q1_11 q6_227) rfl rfl rfl (by decide +kernel) ⟨Nat.le_of_ble_eq_true rfl, Nat.le_of_ble_eq_true rfl⟩) rfl rfl rfl rfl (by decide) rfl rfl rfl rfl rfl rfl (Nat.le_of_ble_eq_true rfl) ⟨Nat.zero_le _, Nat.zero_le _⟩ dX12_readHillLine_115 ?_
                obtain ⟨hz, hf⟩ := gd_some hf
                obtain rfl := Option.some.inj hf
                exact hret _ _ _ _ (Nat.zero_le _) (Nat.zero_le _) (z_nar hz) dX12_readHillLine_118
            · replace hf := it_neg h hf
              refine a_aloadn (pc := 90) (j := 0) F dX12_readHillLine_90 rfl rfl ?_
              refine a_bipush (pc := 91) F dX12_readHillLine_91 kb_6 ?_
              refine a_iconst (pc := 93) F dX12_readHillLine_93 kc_1 ?_
              refine a_bipush (pc := 94) F dX12_readHillLine_94 kb_40 ?_
              obtain ⟨t14, ht14, hf⟩ := bd_some hf
              refine a_callV (pc := 96) (bs' := [bX12 y a0 t14.2]) (kb := 0) (j := 0) F [0] (c_X12_readNumber l D y ek n a0 _ _ _ _ _ ht14) (cwV 3 F.1.2.2.2.2 (gV q6_224 q6_226 qs_39 q1_11 q6_227) rfl rfl rfl (by decide +kernel) ⟨Nat.le_of_ble_eq_true rfl, Nat.le_of_ble_eq_true rfl⟩) rfl rfl rfl rfl (by decide) rfl rfl rfl rfl rfl rfl (Nat.le_of_ble_eq_true rfl) ⟨Nat.zero_le _, Nat.zero_le _⟩ dX12_readHillLine_96 ?_
              obtain ⟨hz, hf⟩ := gd_some hf
              obtain rfl := Option.some.inj hf
              exact hret _ _ _ _ (Nat.zero_le _) (Nat.zero_le _) (z_nar hz) dX12_readHillLine_99
          · replace hf := it_neg h hf
            refine a_aloadn (pc := 72) (j := 0) F dX12_readHillLine_72 rfl rfl ?_
            refine a_iconst (pc := 73) F dX12_readHillLine_73 kc_5 ?_
            refine a_iconst (pc := 74) F dX12_readHillLine_74 kc_0 ?_
            refine a_bipush (pc := 75) F dX12_readHillLine_75 kb_99 ?_
            obtain ⟨t15, ht15, hf⟩ := bd_some hf
            refine a_callV (pc := 77) (bs' := [bX12 y a0 t15.2]) (kb := 0) (j := 0) F [0] (c_X12_readNumber l D y ek n a0 _ _ _ _ _ ht15) (cwV 3 F.1.2.2.2.2 (gV q6_224 q6_226 qs_39 q1_11 q6_227) rfl rfl rfl (by decide +kernel) ⟨Nat.le_of_ble_eq_true rfl, Nat.le_of_ble_eq_true rfl⟩) rfl rfl rfl rfl (by decide) rfl rfl rfl rfl rfl rfl (Nat.le_of_ble_eq_true rfl) ⟨Nat.zero_le _, Nat.zero_le _⟩ dX12_readHillLine_77 ?_
            obtain ⟨hz, hf⟩ := gd_some hf
            obtain rfl := Option.some.inj hf
            exact hret _ _ _ _ (Nat.zero_le _) (Nat.zero_le _) (z_nar hz) dX12_readHillLine_80
        · replace hf := it_neg h hf
          refine a_aloadn (pc := 58) (j := 0) F dX12_readHillLine_58 rfl rfl ?_
          obtain ⟨t16, ht16, hf⟩ := bd_some hf
          refine a_callV (pc := 59) (bs' := [bX12 y a0 t16.2]) (kb := 0) (j := 0) F [0] (c_X12_readThing l D y ek n a0 _ _ ht16) (cwV 0 F.1.2.2.2.2 (gV q6_230 q6_232 qs_40 q1_11 q6_233) rfl rfl rfl (by decide +kernel) ⟨Nat.le_of_ble_eq_true rfl, Nat.le_of_ble_eq_true rfl⟩) rfl rfl rfl rfl (by decide) rfl rfl rfl rfl rfl rfl (Nat.le_of_ble_eq_true rfl) ⟨Nat.zero_le _, Nat.zero_le _⟩ dX12_readHillLine_59 ?_
          obtain ⟨hz, hf⟩ := gd_some hf
          obtain rfl := Option.some.inj hf
          exact hret _ _ _ _ (Nat.zero_le _) (Nat.zero_le _) (z_nar hz) dX12_readHillLine_62
      · replace hf := it_neg h hf
        refine a_aloadn (pc := 41) (j := 0) F dX12_readHillLine_41 rfl rfl ?_
        refine a_iconst (pc := 42) F dX12_readHillLine_42 kc_1 ?_
        refine a_bipush (pc := 43) F dX12_readHillLine_43 kb_9 ?_
        obtain ⟨t17, ht17, hf⟩ := bd_some hf
        refine a_callV (pc := 45) (bs' := [bX12 y a0 t17.2]) (kb := 0) (j := 0) F [0] (c_X12_readHouse l D y ek n a0 _ _ _ _ ht17) (cwV 2 F.1.2.2.2.2 (gV q6_216 q6_218 qs_37 q1_11 q6_219) rfl rfl rfl (by decide +kernel) ⟨Nat.le_of_ble_eq_true rfl, Nat.le_of_ble_eq_true rfl⟩) rfl rfl rfl rfl (by decide) rfl rfl rfl rfl rfl rfl (Nat.le_of_ble_eq_true rfl) ⟨Nat.zero_le _, Nat.zero_le _⟩ dX12_readHillLine_45 ?_
        obtain ⟨hz, hf⟩ := gd_some hf
        obtain rfl := Option.some.inj hf
        exact hret _ _ _ _ (Nat.zero_le _) (Nat.zero_le _) (z_nar hz) dX12_readHillLine_48
    · replace hf := it_neg h hf
      refine a_aloadn (pc := 23) (j := 0) F dX12_readHillLine_23 rfl rfl ?_
      refine a_iconst (pc := 24) F dX12_readHillLine_24 kc_0 ?_
      refine a_sipush (pc := 25) F dX12_readHillLine_25 ks_999 ?_
      obtain ⟨t18, ht18, hf⟩ := bd_some hf
      refine a_callV (pc := 28) (bs' := [bX12 y a0 t18.2]) (kb := 0) (j := 0) F [0] (c_X12_readHouse l D y ek n a0 _ _ _ _ ht18) (cwV 2 F.1.2.2.2.2 (gV q6_216 q6_218 qs_37 q1_11 q6_219) rfl rfl rfl (by decide +kernel) ⟨Nat.le_of_ble_eq_true rfl, Nat.le_of_ble_eq_true rfl⟩) rfl rfl rfl rfl (by decide) rfl rfl rfl rfl rfl rfl (Nat.le_of_ble_eq_true rfl) ⟨Nat.zero_le _, Nat.zero_le _⟩ dX12_readHillLine_28 ?_
      obtain ⟨hz, hf⟩ := gd_some hf
      obtain rfl := Option.some.inj hf
      exact hret _ _ _ _ (Nat.zero_le _) (Nat.zero_le _) (z_nar hz) dX12_readHillLine_31
  · replace hf := it_neg h hf
    refine a_aloadn (pc := 9) (j := 0) F dX12_readHillLine_9 rfl rfl ?_
    obtain ⟨t19, ht19, hf⟩ := bd_some hf
    refine a_callV (pc := 10) (bs' := [bX12 y a0 t19.2]) (kb := 0) (j := 0) F [0] (c_X12_readPlank l D y ek n a0 _ _ ht19) (cwV 0 F.1.2.2.2.2 (gV q6_192 q6_194 qs_33 q1_11 q6_195) rfl rfl rfl (by decide +kernel) ⟨Nat.le_of_ble_eq_true rfl, Nat.le_of_ble_eq_true rfl⟩) rfl rfl rfl rfl (by decide) rfl rfl rfl rfl rfl rfl (Nat.le_of_ble_eq_true rfl) ⟨Nat.zero_le _, Nat.zero_le _⟩ dX12_readHillLine_10 ?_
    obtain ⟨hz, hf⟩ := gd_some hf
    obtain rfl := Option.some.inj hf
    exact hret _ _ _ _ (Nat.zero_le _) (Nat.zero_le _) (z_nar hz) dX12_readHillLine_13

abbrev wX12_emits : List Cond := Cond.code yX12_emits cX12_emits 3 none :: WALL
def m_X12_emits (n : Nat) (v0 : St) (x1 : Int32) (x2 : Int32) : Option (St) :=
(if ix (1280 + (2 * (v0 16 0))) 2080 then nm (su v0 1 ((1280 + (2 * (v0 16 0)))).toNatClampNeg x1) (fun u2 =>
(if ix ((1280 + (2 * (u2 16 0))) + 1) 2080 then nm (su u2 1 (((1280 + (2 * (u2 16 0))) + 1)).toNatClampNeg x2) (fun u4 =>
nm (su u4 16 0 ((u4 16 0) + 1)) (fun u5 =>
some u5)) else none)) else none)
set_option maxHeartbeats 4000000 in
set_option maxRecDepth 100000 in
theorem c_X12_emits (l : Launch) (D : va_G) (y : Nat → ClassId) (ek : EK) (n : Nat) (a0 : Nat → Nat) (v0 : St) (x1 : Int32) (x2 : Int32) (res : St) (hf : m_X12_emits n v0 x1 x2 = some res) : CV l yX12_emits wX12_emits { frames := 0, cells := 0, slots := 0, locals := 0 } D y ek [.ref (a0 0), .int x1, .int x2] [bX12 y a0 v0] [bX12 y a0 res] 0 0 := by
  unfold m_X12_emits at hf
  refine cv_of (cc := cX12_emits) (maxL := 3) (by decide) rfl rfl (Nat.le_of_ble_eq_true rfl) ?_
  intro p e s m below meth c Q A F hret
  refine a_lv (lv' := [(0, .ref (a0 0)), (1, .int x1), (2, .int x2)]) rfl ?_
  refine a_aloadn (pc := 0) (j := 0) F dX12_emits_0 rfl rfl ?_
  refine a_get (pc := 1) (kb := 0) (j := 0) (f := 1) F iW_X12 rfl rfl rfl (by decide) (tl q6_69) (fun _ h => h) rfl dX12_emits_1 ?_
  refine a_sipush (pc := 4) F dX12_emits_4 ks_1280 ?_
  refine a_iconst (pc := 7) F dX12_emits_7 kc_2 ?_
  refine a_aloadn (pc := 8) (j := 0) F dX12_emits_8 rfl rfl ?_
  refine a_get (pc := 9) (kb := 0) (j := 0) (f := 16) F iW_X12 rfl rfl rfl (by decide) (tl q6_84) (fun _ h => h) rfl dX12_emits_9 ?_
  refine a_imul (pc := 12) F dX12_emits_12 ?_
  refine a_iadd (pc := 13) F dX12_emits_13 ?_
  refine a_iloadn (pc := 14) (j := 1) F dX12_emits_14 rfl rfl ?_
  obtain ⟨h1, hf⟩ := gd_some hf
  obtain ⟨u2, eu2, hf⟩ := nm_some hf
  refine a_iast (pc := 15) (kb := 0) (j := 1) (bs' := [bX12 y a0 u2]) F rfl rfl h1 (by rw [eu2]; rfl) dX12_emits_15 ?_
  refine a_aloadn (pc := 16) (j := 0) F dX12_emits_16 rfl rfl ?_
  refine a_get (pc := 17) (kb := 0) (j := 0) (f := 1) F iW_X12 rfl rfl rfl (by decide) (tl q6_69) (fun _ h => h) rfl dX12_emits_17 ?_
  refine a_sipush (pc := 20) F dX12_emits_20 ks_1280 ?_
  refine a_iconst (pc := 23) F dX12_emits_23 kc_2 ?_
  refine a_aloadn (pc := 24) (j := 0) F dX12_emits_24 rfl rfl ?_
  refine a_get (pc := 25) (kb := 0) (j := 0) (f := 16) F iW_X12 rfl rfl rfl (by decide) (tl q6_84) (fun _ h => h) rfl dX12_emits_25 ?_
  refine a_imul (pc := 28) F dX12_emits_28 ?_
  refine a_iadd (pc := 29) F dX12_emits_29 ?_
  refine a_iconst (pc := 30) F dX12_emits_30 kc_1 ?_
  refine a_iadd (pc := 31) F dX12_emits_31 ?_
  refine a_iloadn (pc := 32) (j := 2) F dX12_emits_32 rfl rfl ?_
  obtain ⟨h3, hf⟩ := gd_some hf
  obtain ⟨u4, eu4, hf⟩ := nm_some hf
  refine a_iast (pc := 33) (kb := 0) (j := 1) (bs' := [bX12 y a0 u4]) F rfl rfl h3 (by rw [eu4]; rfl) dX12_emits_33 ?_
  refine a_aloadn (pc := 34) (j := 0) F dX12_emits_34 rfl rfl ?_
  refine a_dup (pc := 35) F dX12_emits_35 rfl ?_
  refine a_get (pc := 36) (kb := 0) (j := 0) (f := 16) F iW_X12 rfl rfl rfl (by decide) (tl q6_84) (fun _ h => h) rfl dX12_emits_36 ?_
  refine a_iconst (pc := 39) F dX12_emits_39 kc_1 ?_
  refine a_iadd (pc := 40) F dX12_emits_40 ?_
  obtain ⟨u5, eu5, hf⟩ := nm_some hf
  refine a_put (pc := 41) (kb := 0) (j := 0) (f := 16) (ty := .int) (bs' := [bX12 y a0 u5]) F iW_X12 rfl rfl rfl (by decide) (tl q6_84) (fun _ h => h) tyX12 tyX12_ok nmX12 rfl rfl rfl rfl (Nat.le_of_ble_eq_true rfl) (by rw [eu5]; rfl) dX12_emits_41 ?_
  obtain rfl := Option.some.inj hf
  exact hret _ _ _ _ (Nat.zero_le _) (Nat.zero_le _) dX12_emits_44

abbrev wX12_readPart : List Cond := Cond.code yX12_readPart cX12_readPart 2 (some .boolean) :: WALL
def m_X12_readPart (n : Nat) (v0 : St) : Option (Int32 × St) :=
bd (m_X12_letters n v0) (fun t1 =>
bd ((if (t1 10 0) = (t1 12 0) then
bd (m_X12_number n t1 0 999) (fun t11 =>
bd (m_X12_emits n t11.2 8 t11.1) (fun t12 =>
some (t11.1, t12)))
else
bd (m_X12_isWord n t1 13) (fun t3 =>
bd ((if t3 = 0 then
bd (m_X12_isWord n t1 14) (fun t6 =>
(if t6 = 0 then
bd (m_X12_isWord n t1 15) (fun t7 =>
(if t7 = 0 then
bd (m_X12_isWord n t1 6) (fun t8 =>
(if t8 = 0 then
bd (m_X12_isWord n t1 16) (fun t9 =>
(if t9 = 0 then
bd (m_X12_isWord n t1 17) (fun t10 =>
(if t10 = 0 then
some (-1)
else
some 5))
else
some 4))
else
some 3))
else
some 2))
else
some 1))
else
some 0)) (fun (t4 : Int32) =>
bd (m_X12_emits n t1 t4 0) (fun t5 =>
some (t4, t5)))))) (fun (t2 : Int32 × St) =>
(if t2.1 < 0 then
some (0, t2.2)
else
some (1, t2.2))))
set_option maxHeartbeats 4000000 in
set_option maxRecDepth 100000 in
theorem c_X12_readPart (l : Launch) (D : va_G) (y : Nat → ClassId) (ek : EK) (n : Nat) (a0 : Nat → Nat) (v0 : St) (res : Int32 × St) (hf : m_X12_readPart n v0 = some res) : CI l yX12_readPart wX12_readPart { frames := 5, cells := 0, slots := 0, locals := 108 } D y ek [.ref (a0 0)] [bX12 y a0 v0] (res.1) [bX12 y a0 res.2] 0 0 := by
  unfold m_X12_readPart at hf
  refine ci_of (cc := cX12_readPart) (maxL := 2) (by decide) rfl rfl (Nat.le_of_ble_eq_true rfl) ?_
  intro p e s m below meth c Q A F hret
  refine a_lv (lv' := [(0, .ref (a0 0))]) rfl ?_
  refine a_aloadn (pc := 0) (j := 0) F dX12_readPart_0 rfl rfl ?_
  obtain ⟨t1, ht1, hf⟩ := bd_some hf
  refine a_callVv (pc := 1) (bs' := [bX12 y a0 t1]) (kb := 0) (j := 0) F [0] (c_X12_letters l D y ek n a0 _ _ ht1) (cwV 0 F.1.2.2.2.2 (gV q6_177 q6_179 qs_30 q1_11 q6_180) rfl rfl rfl (by decide +kernel) ⟨Nat.le_of_ble_eq_true rfl, Nat.le_of_ble_eq_true rfl⟩) rfl rfl rfl rfl (by decide) rfl rfl rfl rfl rfl rfl (Nat.le_of_ble_eq_true rfl) ⟨Nat.zero_le _, Nat.zero_le _⟩ dX12_readPart_1 ?_
  refine a_aloadn (pc := 4) (j := 0) F dX12_readPart_4 rfl rfl ?_
  refine a_get (pc := 5) (kb := 0) (j := 0) (f := 10) F iW_X12 rfl rfl rfl (by decide) (tl q6_78) (fun _ h => h) rfl dX12_readPart_5 ?_
  refine a_aloadn (pc := 8) (j := 0) F dX12_readPart_8 rfl rfl ?_
  refine a_get (pc := 9) (kb := 0) (j := 0) (f := 12) F iW_X12 rfl rfl rfl (by decide) (tl q6_80) (fun _ h => h) rfl dX12_readPart_9 ?_
  refine a_join 120 (fun (t2 : Int32 × St) => [(1, .int t2.1)]) (fun (t2 : Int32 × St) => []) (fun (t2 : Int32 × St) => [bX12 y a0 t2.2]) hf (fun t2 hf => ?_) (fun t2 hf J2 => ?_)
  · try dsimp only at hf ⊢
    refine a_iloadn (pc := 120) (j := 0) F dX12_readPart_120 rfl rfl ?_
    refine a_if_lt (pc := 121) (tgt := 128) F dX12_readPart_121 (by decide) (fun h => ?_) (fun h => ?_)
    · replace hf := it_pos h hf
      refine a_iconst (pc := 128) F dX12_readPart_128 kc_0 ?_
      obtain rfl := Option.some.inj hf
      exact hret _ _ _ _ (Nat.zero_le _) (Nat.zero_le _) (z_nar (Or.inl rfl)) dX12_readPart_129
    · replace hf := it_neg h hf
      refine a_iconst (pc := 124) F dX12_readPart_124 kc_1 ?_
      refine a_goto (pc := 125) (tgt := 129) F dX12_readPart_125 (by decide) ?_
      obtain rfl := Option.some.inj hf
      exact hret _ _ _ _ (Nat.zero_le _) (Nat.zero_le _) (z_nar (Or.inr rfl)) dX12_readPart_129
  · refine a_icmp_ne (pc := 12) (tgt := 34) F dX12_readPart_12 (by decide) (fun h => ?_) (fun h => ?_)
    · replace hf := it_neg h hf
      refine a_aloadn (pc := 34) (j := 0) F dX12_readPart_34 rfl rfl ?_
      refine a_ldcS (pc := 35) (tx := "house") F 13 rfl dX12_readPart_35 ?_
      obtain ⟨t3, ht3, hf⟩ := bd_some hf
      refine a_callV (pc := 37) (bs' := [bX12 y a0 t1]) (kb := 0) (j := 0) F [0] (c_X12_isWord l D y ek n a0 _ _ _ ht3) (cwV 1 F.1.2.2.2.2 (gV q6_186 q6_188 qs_32 q1_11 q6_189) rfl rfl rfl (by decide +kernel) ⟨Nat.le_of_ble_eq_true rfl, Nat.le_of_ble_eq_true rfl⟩) rfl rfl rfl rfl (by decide) rfl rfl rfl rfl rfl rfl (Nat.le_of_ble_eq_true rfl) ⟨Nat.zero_le _, Nat.zero_le _⟩ dX12_readPart_37 ?_
      refine a_join 113 (fun (t4 : Int32) => [(0, .ref (a0 0))]) (fun (t4 : Int32) => [.int t4]) (fun (t4 : Int32) => [bX12 y a0 t1]) hf (fun t4 hf => ?_) (fun t4 hf J4 => ?_)
      · try dsimp only at hf ⊢
        refine a_istoren (pc := 113) (lv' := [(0, .ref (a0 0)), (1, .int t4)]) F [1, 0] dX12_readPart_113 rfl (by decide) rfl ?_
        refine a_aloadn (pc := 114) (j := 0) F dX12_readPart_114 rfl rfl ?_
        refine a_iloadn (pc := 115) (j := 1) F dX12_readPart_115 rfl rfl ?_
        refine a_iconst (pc := 116) F dX12_readPart_116 kc_0 ?_
        obtain ⟨t5, ht5, hf⟩ := bd_some hf
        refine a_callVv (pc := 117) (bs' := [bX12 y a0 t5]) (kb := 0) (j := 0) F [0] (c_X12_emits l D y ek n a0 _ _ _ _ ht5) (cwV 2 F.1.2.2.2.2 (gV q7_36 q7_38 qs_48 q1_11 q7_39) rfl rfl rfl (by decide +kernel) ⟨Nat.le_of_ble_eq_true rfl, Nat.le_of_ble_eq_true rfl⟩) rfl rfl rfl rfl (by decide) rfl rfl rfl rfl rfl rfl (Nat.le_of_ble_eq_true rfl) ⟨Nat.zero_le _, Nat.zero_le _⟩ dX12_readPart_117 ?_
        refine a_sub [1] rfl ?_
        obtain rfl := Option.some.inj hf
        exact J2
      · refine a_if_eq (pc := 40) (tgt := 47) F dX12_readPart_40 (by decide) (fun h => ?_) (fun h => ?_)
        · replace hf := it_pos h hf
          refine a_aloadn (pc := 47) (j := 0) F dX12_readPart_47 rfl rfl ?_
          refine a_ldcS (pc := 48) (tx := "height") F 14 rfl dX12_readPart_48 ?_
          obtain ⟨t6, ht6, hf⟩ := bd_some hf
          refine a_callV (pc := 50) (bs' := [bX12 y a0 t1]) (kb := 0) (j := 0) F [0] (c_X12_isWord l D y ek n a0 _ _ _ ht6) (cwV 1 F.1.2.2.2.2 (gV q6_186 q6_188 qs_32 q1_11 q6_189) rfl rfl rfl (by decide +kernel) ⟨Nat.le_of_ble_eq_true rfl, Nat.le_of_ble_eq_true rfl⟩) rfl rfl rfl rfl (by decide) rfl rfl rfl rfl rfl rfl (Nat.le_of_ble_eq_true rfl) ⟨Nat.zero_le _, Nat.zero_le _⟩ dX12_readPart_50 ?_
          refine a_if_eq (pc := 53) (tgt := 60) F dX12_readPart_53 (by decide) (fun h => ?_) (fun h => ?_)
          · replace hf := it_pos h hf
            refine a_aloadn (pc := 60) (j := 0) F dX12_readPart_60 rfl rfl ?_
            refine a_ldcS (pc := 61) (tx := "load") F 15 rfl dX12_readPart_61 ?_
            obtain ⟨t7, ht7, hf⟩ := bd_some hf
            refine a_callV (pc := 63) (bs' := [bX12 y a0 t1]) (kb := 0) (j := 0) F [0] (c_X12_isWord l D y ek n a0 _ _ _ ht7) (cwV 1 F.1.2.2.2.2 (gV q6_186 q6_188 qs_32 q1_11 q6_189) rfl rfl rfl (by decide +kernel) ⟨Nat.le_of_ble_eq_true rfl, Nat.le_of_ble_eq_true rfl⟩) rfl rfl rfl rfl (by decide) rfl rfl rfl rfl rfl rfl (Nat.le_of_ble_eq_true rfl) ⟨Nat.zero_le _, Nat.zero_le _⟩ dX12_readPart_63 ?_
            refine a_if_eq (pc := 66) (tgt := 73) F dX12_readPart_66 (by decide) (fun h => ?_) (fun h => ?_)
            · replace hf := it_pos h hf
              refine a_aloadn (pc := 73) (j := 0) F dX12_readPart_73 rfl rfl ?_
              refine a_ldcS (pc := 74) (tx := "guests") F 6 rfl dX12_readPart_74 ?_
              obtain ⟨t8, ht8, hf⟩ := bd_some hf
              refine a_callV (pc := 76) (bs' := [bX12 y a0 t1]) (kb := 0) (j := 0) F [0] (c_X12_isWord l D y ek n a0 _ _ _ ht8) (cwV 1 F.1.2.2.2.2 (gV q6_186 q6_188 qs_32 q1_11 q6_189) rfl rfl rfl (by decide +kernel) ⟨Nat.le_of_ble_eq_true rfl, Nat.le_of_ble_eq_true rfl⟩) rfl rfl rfl rfl (by decide) rfl rfl rfl rfl rfl rfl (Nat.le_of_ble_eq_true rfl) ⟨Nat.zero_le _, Nat.zero_le _⟩ dX12_readPart_76 ?_
              refine a_if_eq (pc := 79) (tgt := 86) F dX12_readPart_79 (by decide) (fun h => ?_) (fun h => ?_)
              · replace hf := it_pos h hf
                refine a_aloadn (pc := 86) (j := 0) F dX12_readPart_86 rfl rfl ?_
                refine a_ldcS (pc := 87) (tx := "aged") F 16 rfl dX12_readPart_87 ?_
                obtain ⟨t9, ht9, hf⟩ := bd_some hf
                refine a_callV (pc := 89) (bs' := [bX12 y a0 t1]) (kb := 0) (j := 0) F [0] (c_X12_isWord l D y ek n a0 _ _ _ ht9) (cwV 1 F.1.2.2.2.2 (gV q6_186 q6_188 qs_32 q1_11 q6_189) rfl rfl rfl (by decide +kernel) ⟨Nat.le_of_ble_eq_true rfl, Nat.le_of_ble_eq_true rfl⟩) rfl rfl rfl rfl (by decide) rfl rfl rfl rfl rfl rfl (Nat.le_of_ble_eq_true rfl) ⟨Nat.zero_le _, Nat.zero_le _⟩ dX12_readPart_89 ?_
                refine a_if_eq (pc := 92) (tgt := 99) F dX12_readPart_92 (by decide) (fun h => ?_) (fun h => ?_)
                · replace hf := it_pos h hf
                  refine a_aloadn (pc := 99) (j := 0) F dX12_readPart_99 rfl rfl ?_
                  refine a_ldcS (pc := 100) (tx := "week") F 17 rfl dX12_readPart_100 ?_
                  obtain ⟨t10, ht10, hf⟩ := bd_some hf
                  refine a_callV (pc := 102) (bs' := [bX12 y a0 t1]) (kb := 0) (j := 0) F [0] (c_X12_isWord l D y ek n a0 _ _ _ ht10) (cwV 1 F.1.2.2.2.2 (gV q6_186 q6_188 qs_32 q1_11 q6_189) rfl rfl rfl (by decide +kernel) ⟨Nat.le_of_ble_eq_true rfl, Nat.le_of_ble_eq_true rfl⟩) rfl rfl rfl rfl (by decide) rfl rfl rfl rfl rfl rfl (Nat.le_of_ble_eq_true rfl) ⟨Nat.zero_le _, Nat.zero_le _⟩ dX12_readPart_102 ?_
                  refine a_if_eq (pc := 105) (tgt := 112) F dX12_readPart_105 (by decide) (fun h => ?_) (fun h => ?_)
                  · replace hf := it_pos h hf
                    refine a_iconst (pc := 112) F dX12_readPart_112 kc_m1 ?_
                    obtain rfl := Option.some.inj hf
                    exact J4
                  · replace hf := it_neg h hf
                    refine a_iconst (pc := 108) F dX12_readPart_108 kc_5 ?_
                    refine a_goto (pc := 109) (tgt := 113) F dX12_readPart_109 (by decide) ?_
                    obtain rfl := Option.some.inj hf
                    exact J4
                · replace hf := it_neg h hf
                  refine a_iconst (pc := 95) F dX12_readPart_95 kc_4 ?_
                  refine a_goto (pc := 96) (tgt := 113) F dX12_readPart_96 (by decide) ?_
                  obtain rfl := Option.some.inj hf
                  exact J4
              · replace hf := it_neg h hf
                refine a_iconst (pc := 82) F dX12_readPart_82 kc_3 ?_
                refine a_goto (pc := 83) (tgt := 113) F dX12_readPart_83 (by decide) ?_
                obtain rfl := Option.some.inj hf
                exact J4
            · replace hf := it_neg h hf
              refine a_iconst (pc := 69) F dX12_readPart_69 kc_2 ?_
              refine a_goto (pc := 70) (tgt := 113) F dX12_readPart_70 (by decide) ?_
              obtain rfl := Option.some.inj hf
              exact J4
          · replace hf := it_neg h hf
            refine a_iconst (pc := 56) F dX12_readPart_56 kc_1 ?_
            refine a_goto (pc := 57) (tgt := 113) F dX12_readPart_57 (by decide) ?_
            obtain rfl := Option.some.inj hf
            exact J4
        · replace hf := it_neg h hf
          refine a_iconst (pc := 43) F dX12_readPart_43 kc_0 ?_
          refine a_goto (pc := 44) (tgt := 113) F dX12_readPart_44 (by decide) ?_
          obtain rfl := Option.some.inj hf
          exact J4
    · replace hf := it_pos h hf
      refine a_aloadn (pc := 15) (j := 0) F dX12_readPart_15 rfl rfl ?_
      refine a_iconst (pc := 16) F dX12_readPart_16 kc_0 ?_
      refine a_sipush (pc := 17) F dX12_readPart_17 ks_999 ?_
      obtain ⟨t11, ht11, hf⟩ := bd_some hf
      refine a_callV (pc := 20) (bs' := [bX12 y a0 t11.2]) (kb := 0) (j := 0) F [0] (c_X12_number l D y ek n a0 _ _ _ _ ht11) (cwV 2 F.1.2.2.2.2 (gV q6_200 q6_202 qs_35 q1_11 q6_203) rfl rfl rfl (by decide +kernel) ⟨Nat.le_of_ble_eq_true rfl, Nat.le_of_ble_eq_true rfl⟩) rfl rfl rfl rfl (by decide) rfl rfl rfl rfl rfl rfl (Nat.le_of_ble_eq_true rfl) ⟨Nat.zero_le _, Nat.zero_le _⟩ dX12_readPart_20 ?_
      refine a_istoren (pc := 23) (lv' := [(0, .ref (a0 0)), (1, .int t11.1)]) F [1, 0] dX12_readPart_23 rfl (by decide) rfl ?_
      refine a_aloadn (pc := 24) (j := 0) F dX12_readPart_24 rfl rfl ?_
      refine a_bipush (pc := 25) F dX12_readPart_25 kb_8 ?_
      refine a_iloadn (pc := 27) (j := 1) F dX12_readPart_27 rfl rfl ?_
      obtain ⟨t12, ht12, hf⟩ := bd_some hf
      refine a_callVv (pc := 28) (bs' := [bX12 y a0 t12]) (kb := 0) (j := 0) F [0] (c_X12_emits l D y ek n a0 _ _ _ _ ht12) (cwV 2 F.1.2.2.2.2 (gV q7_36 q7_38 qs_48 q1_11 q7_39) rfl rfl rfl (by decide +kernel) ⟨Nat.le_of_ble_eq_true rfl, Nat.le_of_ble_eq_true rfl⟩) rfl rfl rfl rfl (by decide) rfl rfl rfl rfl rfl rfl (Nat.le_of_ble_eq_true rfl) ⟨Nat.zero_le _, Nat.zero_le _⟩ dX12_readPart_28 ?_
      refine a_goto (pc := 31) (tgt := 120) F dX12_readPart_31 (by decide) ?_
      refine a_sub [1] rfl ?_
      obtain rfl := Option.some.inj hf
      exact J2

abbrev wX12_readSum : List Cond := Cond.code yX12_readSum cX12_readSum 1 (some .boolean) :: WALL
def m_X12_readSum (n : Nat) (v0 : St) : Option (Int32 × St) :=
bd (m_X12_readPart n v0) (fun t1 =>
(if t1.1 = 0 then
some (0, t1.2)
else
lp (fun (rc2 : St → Option (Int32 × St)) (x2l : St) =>
bd (m_X12_sign n x2l 43) (fun t3 =>
(if t3.1 = 0 then
some (1, t3.2)
else
bd (m_X12_readPart n t3.2) (fun t4 =>
(if t4.1 = 0 then
some (0, t4.2)
else
bd (m_X12_emits n t4.2 9 0) (fun t5 =>
rc2 t5)))))) n t1.2))
set_option maxHeartbeats 4000000 in
set_option maxRecDepth 100000 in
theorem c_X12_readSum (l : Launch) (D : va_G) (y : Nat → ClassId) (ek : EK) (n : Nat) (a0 : Nat → Nat) (v0 : St) (res : Int32 × St) (hf : m_X12_readSum n v0 = some res) : CI l yX12_readSum wX12_readSum { frames := 6, cells := 0, slots := 0, locals := 129 } D y ek [.ref (a0 0)] [bX12 y a0 v0] (res.1) [bX12 y a0 res.2] 0 0 := by
  unfold m_X12_readSum at hf
  refine ci_of (cc := cX12_readSum) (maxL := 1) (by decide) rfl rfl (Nat.le_of_ble_eq_true rfl) ?_
  intro p e s m below meth c Q A F hret
  refine a_lv (lv' := [(0, .ref (a0 0))]) rfl ?_
  refine a_aloadn (pc := 0) (j := 0) F dX12_readSum_0 rfl rfl ?_
  obtain ⟨t1, ht1, hf⟩ := bd_some hf
  refine a_callV (pc := 1) (bs' := [bX12 y a0 t1.2]) (kb := 0) (j := 0) F [0] (c_X12_readPart l D y ek n a0 _ _ ht1) (cwV 0 F.1.2.2.2.2 (gV q7_50 q7_52 qs_51 q1_11 q7_53) rfl rfl rfl (by decide +kernel) ⟨Nat.le_of_ble_eq_true rfl, Nat.le_of_ble_eq_true rfl⟩) rfl rfl rfl rfl (by decide) rfl rfl rfl rfl rfl rfl (Nat.le_of_ble_eq_true rfl) ⟨Nat.zero_le _, Nat.zero_le _⟩ dX12_readSum_1 ?_
  refine a_if_ne (pc := 4) (tgt := 9) F dX12_readSum_4 (by decide) (fun h => ?_) (fun h => ?_)
  · replace hf := it_neg h hf
    refine a_loop 9 (fun (x2l : St) => [(0, .ref (a0 0))]) (fun (x2l : St) => [bX12 y a0 x2l]) (fun rc2 x2l ih2 hf => ?_) hf rfl rfl
    try dsimp only at hf ⊢
    refine a_aloadn (pc := 9) (j := 0) F dX12_readSum_9 rfl rfl ?_
    refine a_bipush (pc := 10) F dX12_readSum_10 kb_43 ?_
    obtain ⟨t3, ht3, hf⟩ := bd_some hf
    refine a_callV (pc := 12) (bs' := [bX12 y a0 t3.2]) (kb := 0) (j := 0) F [0] (c_X12_sign l D y ek n a0 _ _ _ ht3) (cwV 1 F.1.2.2.2.2 (gV q7_31 q7_33 qs_47 q1_11 q7_34) rfl rfl rfl (by decide +kernel) ⟨Nat.le_of_ble_eq_true rfl, Nat.le_of_ble_eq_true rfl⟩) rfl rfl rfl rfl (by decide) rfl rfl rfl rfl rfl rfl (Nat.le_of_ble_eq_true rfl) ⟨Nat.zero_le _, Nat.zero_le _⟩ dX12_readSum_12 ?_
    refine a_if_eq (pc := 15) (tgt := 37) F dX12_readSum_15 (by decide) (fun h => ?_) (fun h => ?_)
    · replace hf := it_pos h hf
      refine a_iconst (pc := 37) F dX12_readSum_37 kc_1 ?_
      obtain rfl := Option.some.inj hf
      exact hret _ _ _ _ (Nat.zero_le _) (Nat.zero_le _) (z_nar (Or.inr rfl)) dX12_readSum_38
    · replace hf := it_neg h hf
      refine a_aloadn (pc := 18) (j := 0) F dX12_readSum_18 rfl rfl ?_
      obtain ⟨t4, ht4, hf⟩ := bd_some hf
      refine a_callV (pc := 19) (bs' := [bX12 y a0 t4.2]) (kb := 0) (j := 0) F [0] (c_X12_readPart l D y ek n a0 _ _ ht4) (cwV 0 F.1.2.2.2.2 (gV q7_50 q7_52 qs_51 q1_11 q7_53) rfl rfl rfl (by decide +kernel) ⟨Nat.le_of_ble_eq_true rfl, Nat.le_of_ble_eq_true rfl⟩) rfl rfl rfl rfl (by decide) rfl rfl rfl rfl rfl rfl (Nat.le_of_ble_eq_true rfl) ⟨Nat.zero_le _, Nat.zero_le _⟩ dX12_readSum_19 ?_
      refine a_if_ne (pc := 22) (tgt := 27) F dX12_readSum_22 (by decide) (fun h => ?_) (fun h => ?_)
      · replace hf := it_neg h hf
        refine a_aloadn (pc := 27) (j := 0) F dX12_readSum_27 rfl rfl ?_
        refine a_bipush (pc := 28) F dX12_readSum_28 kb_9 ?_
        refine a_iconst (pc := 30) F dX12_readSum_30 kc_0 ?_
        obtain ⟨t5, ht5, hf⟩ := bd_some hf
        refine a_callVv (pc := 31) (bs' := [bX12 y a0 t5]) (kb := 0) (j := 0) F [0] (c_X12_emits l D y ek n a0 _ _ _ _ ht5) (cwV 2 F.1.2.2.2.2 (gV q7_36 q7_38 qs_48 q1_11 q7_39) rfl rfl rfl (by decide +kernel) ⟨Nat.le_of_ble_eq_true rfl, Nat.le_of_ble_eq_true rfl⟩) rfl rfl rfl rfl (by decide) rfl rfl rfl rfl rfl rfl (Nat.le_of_ble_eq_true rfl) ⟨Nat.zero_le _, Nat.zero_le _⟩ dX12_readSum_31 ?_
        refine a_goto (pc := 34) (tgt := 9) F dX12_readSum_34 (by decide) ?_
        exact ih2 t5 hf
      · replace hf := it_pos h hf
        refine a_iconst (pc := 25) F dX12_readSum_25 kc_0 ?_
        obtain rfl := Option.some.inj hf
        exact hret _ _ _ _ (Nat.zero_le _) (Nat.zero_le _) (z_nar (Or.inl rfl)) dX12_readSum_26
  · replace hf := it_pos h hf
    refine a_iconst (pc := 7) F dX12_readSum_7 kc_0 ?_
    obtain rfl := Option.some.inj hf
    exact hret _ _ _ _ (Nat.zero_le _) (Nat.zero_le _) (z_nar (Or.inl rfl)) dX12_readSum_8

abbrev wX12_readTag : List Cond := Cond.code yX12_readTag cX12_readTag 2 (some .boolean) :: WALL
def m_X12_readTag (n : Nat) (v0 : St) : Option (Int32 × St) :=
bd (m_X12_letters n v0) (fun t1 =>
bd (m_X12_isWord n t1 18) (fun t2 =>
bd ((if t2 = 0 then
bd (m_X12_isWord n t1 19) (fun t7 =>
(if t7 = 0 then
some (-1)
else
some 7))
else
some 6)) (fun (t3 : Int32) =>
bd ((if t3 < 0 then
nm (su t1 10 0 (t1 12 0)) (fun u5 =>
some u5)
else
bd (m_X12_emits n t1 t3 0) (fun t6 =>
some t6))) (fun (t4 : St) =>
(if t3 < 0 then
some (0, t4)
else
some (1, t4))))))
set_option maxHeartbeats 4000000 in
set_option maxRecDepth 100000 in
theorem c_X12_readTag (l : Launch) (D : va_G) (y : Nat → ClassId) (ek : EK) (n : Nat) (a0 : Nat → Nat) (v0 : St) (res : Int32 × St) (hf : m_X12_readTag n v0 = some res) : CI l yX12_readTag wX12_readTag { frames := 5, cells := 0, slots := 0, locals := 108 } D y ek [.ref (a0 0)] [bX12 y a0 v0] (res.1) [bX12 y a0 res.2] 0 0 := by
  unfold m_X12_readTag at hf
  refine ci_of (cc := cX12_readTag) (maxL := 2) (by decide) rfl rfl (Nat.le_of_ble_eq_true rfl) ?_
  intro p e s m below meth c Q A F hret
  refine a_lv (lv' := [(0, .ref (a0 0))]) rfl ?_
  refine a_aloadn (pc := 0) (j := 0) F dX12_readTag_0 rfl rfl ?_
  obtain ⟨t1, ht1, hf⟩ := bd_some hf
  refine a_callVv (pc := 1) (bs' := [bX12 y a0 t1]) (kb := 0) (j := 0) F [0] (c_X12_letters l D y ek n a0 _ _ ht1) (cwV 0 F.1.2.2.2.2 (gV q6_177 q6_179 qs_30 q1_11 q6_180) rfl rfl rfl (by decide +kernel) ⟨Nat.le_of_ble_eq_true rfl, Nat.le_of_ble_eq_true rfl⟩) rfl rfl rfl rfl (by decide) rfl rfl rfl rfl rfl rfl (Nat.le_of_ble_eq_true rfl) ⟨Nat.zero_le _, Nat.zero_le _⟩ dX12_readTag_1 ?_
  refine a_aloadn (pc := 4) (j := 0) F dX12_readTag_4 rfl rfl ?_
  refine a_ldcS (pc := 5) (tx := "up") F 18 rfl dX12_readTag_5 ?_
  obtain ⟨t2, ht2, hf⟩ := bd_some hf
  refine a_callV (pc := 7) (bs' := [bX12 y a0 t1]) (kb := 0) (j := 0) F [0] (c_X12_isWord l D y ek n a0 _ _ _ ht2) (cwV 1 F.1.2.2.2.2 (gV q6_186 q6_188 qs_32 q1_11 q6_189) rfl rfl rfl (by decide +kernel) ⟨Nat.le_of_ble_eq_true rfl, Nat.le_of_ble_eq_true rfl⟩) rfl rfl rfl rfl (by decide) rfl rfl rfl rfl rfl rfl (Nat.le_of_ble_eq_true rfl) ⟨Nat.zero_le _, Nat.zero_le _⟩ dX12_readTag_7 ?_
  refine a_join 33 (fun (t3 : Int32) => [(0, .ref (a0 0))]) (fun (t3 : Int32) => [.int t3]) (fun (t3 : Int32) => [bX12 y a0 t1]) hf (fun t3 hf => ?_) (fun t3 hf J3 => ?_)
  · try dsimp only at hf ⊢
    refine a_istoren (pc := 33) (lv' := [(0, .ref (a0 0)), (1, .int t3)]) F [1, 0] dX12_readTag_33 rfl (by decide) rfl ?_
    refine a_iloadn (pc := 34) (j := 1) F dX12_readTag_34 rfl rfl ?_
    refine a_join 55 (fun (t4 : St) => [(1, .int t3)]) (fun (t4 : St) => []) (fun (t4 : St) => [bX12 y a0 t4]) hf (fun t4 hf => ?_) (fun t4 hf J4 => ?_)
    · try dsimp only at hf ⊢
      refine a_iloadn (pc := 55) (j := 0) F dX12_readTag_55 rfl rfl ?_
      refine a_if_lt (pc := 56) (tgt := 63) F dX12_readTag_56 (by decide) (fun h => ?_) (fun h => ?_)
      · replace hf := it_pos h hf
        refine a_iconst (pc := 63) F dX12_readTag_63 kc_0 ?_
        obtain rfl := Option.some.inj hf
        exact hret _ _ _ _ (Nat.zero_le _) (Nat.zero_le _) (z_nar (Or.inl rfl)) dX12_readTag_64
      · replace hf := it_neg h hf
        refine a_iconst (pc := 59) F dX12_readTag_59 kc_1 ?_
        refine a_goto (pc := 60) (tgt := 64) F dX12_readTag_60 (by decide) ?_
        obtain rfl := Option.some.inj hf
        exact hret _ _ _ _ (Nat.zero_le _) (Nat.zero_le _) (z_nar (Or.inr rfl)) dX12_readTag_64
    · refine a_if_lt (pc := 35) (tgt := 47) F dX12_readTag_35 (by decide) (fun h => ?_) (fun h => ?_)
      · replace hf := it_pos h hf
        refine a_aloadn (pc := 47) (j := 0) F dX12_readTag_47 rfl rfl ?_
        refine a_aloadn (pc := 48) (j := 0) F dX12_readTag_48 rfl rfl ?_
        refine a_get (pc := 49) (kb := 0) (j := 0) (f := 12) F iW_X12 rfl rfl rfl (by decide) (tl q6_80) (fun _ h => h) rfl dX12_readTag_49 ?_
        obtain ⟨u5, eu5, hf⟩ := nm_some hf
        refine a_put (pc := 52) (kb := 0) (j := 0) (f := 10) (ty := .int) (bs' := [bX12 y a0 u5]) F iW_X12 rfl rfl rfl (by decide) (tl q6_78) (fun _ h => h) tyX12 tyX12_ok nmX12 rfl rfl rfl rfl (Nat.le_of_ble_eq_true rfl) (by rw [eu5]; rfl) dX12_readTag_52 ?_
        refine a_sub [1] rfl ?_
        obtain rfl := Option.some.inj hf
        exact J4
      · replace hf := it_neg h hf
        refine a_aloadn (pc := 38) (j := 0) F dX12_readTag_38 rfl rfl ?_
        refine a_iloadn (pc := 39) (j := 1) F dX12_readTag_39 rfl rfl ?_
        refine a_iconst (pc := 40) F dX12_readTag_40 kc_0 ?_
        obtain ⟨t6, ht6, hf⟩ := bd_some hf
        refine a_callVv (pc := 41) (bs' := [bX12 y a0 t6]) (kb := 0) (j := 0) F [0] (c_X12_emits l D y ek n a0 _ _ _ _ ht6) (cwV 2 F.1.2.2.2.2 (gV q7_36 q7_38 qs_48 q1_11 q7_39) rfl rfl rfl (by decide +kernel) ⟨Nat.le_of_ble_eq_true rfl, Nat.le_of_ble_eq_true rfl⟩) rfl rfl rfl rfl (by decide) rfl rfl rfl rfl rfl rfl (Nat.le_of_ble_eq_true rfl) ⟨Nat.zero_le _, Nat.zero_le _⟩ dX12_readTag_41 ?_
        refine a_goto (pc := 44) (tgt := 55) F dX12_readTag_44 (by decide) ?_
        refine a_sub [1] rfl ?_
        obtain rfl := Option.some.inj hf
        exact J4
  · refine a_if_eq (pc := 10) (tgt := 18) F dX12_readTag_10 (by decide) (fun h => ?_) (fun h => ?_)
    · replace hf := it_pos h hf
      refine a_aloadn (pc := 18) (j := 0) F dX12_readTag_18 rfl rfl ?_
      refine a_ldcS (pc := 19) (tx := "level") F 19 rfl dX12_readTag_19 ?_
      obtain ⟨t7, ht7, hf⟩ := bd_some hf
      refine a_callV (pc := 21) (bs' := [bX12 y a0 t1]) (kb := 0) (j := 0) F [0] (c_X12_isWord l D y ek n a0 _ _ _ ht7) (cwV 1 F.1.2.2.2.2 (gV q6_186 q6_188 qs_32 q1_11 q6_189) rfl rfl rfl (by decide +kernel) ⟨Nat.le_of_ble_eq_true rfl, Nat.le_of_ble_eq_true rfl⟩) rfl rfl rfl rfl (by decide) rfl rfl rfl rfl rfl rfl (Nat.le_of_ble_eq_true rfl) ⟨Nat.zero_le _, Nat.zero_le _⟩ dX12_readTag_21 ?_
      refine a_if_eq (pc := 24) (tgt := 32) F dX12_readTag_24 (by decide) (fun h => ?_) (fun h => ?_)
      · replace hf := it_pos h hf
        refine a_iconst (pc := 32) F dX12_readTag_32 kc_m1 ?_
        obtain rfl := Option.some.inj hf
        exact J3
      · replace hf := it_neg h hf
        refine a_bipush (pc := 27) F dX12_readTag_27 kb_7 ?_
        refine a_goto (pc := 29) (tgt := 33) F dX12_readTag_29 (by decide) ?_
        obtain rfl := Option.some.inj hf
        exact J3
    · replace hf := it_neg h hf
      refine a_bipush (pc := 13) F dX12_readTag_13 kb_6 ?_
      refine a_goto (pc := 15) (tgt := 33) F dX12_readTag_15 (by decide) ?_
      obtain rfl := Option.some.inj hf
      exact J3

abbrev wX12_readCond : List Cond := Cond.code yX12_readCond cX12_readCond 1 (some .boolean) :: WALL
abbrev wX12_readAllOf : List Cond := Cond.code yX12_readAllOf cX12_readAllOf 1 (some .boolean) :: WALL
abbrev wX12_readAtom : List Cond := Cond.code yX12_readAtom cX12_readAtom 2 (some .boolean) :: WALL
def G_X12_readCond (n : Nat) : Nat → Nat → St → Option (Int32 × St)
  | 0, _, _ => none
  | d + 1, 0, v0 =>
    bd (G_X12_readCond n d 1 v0) (fun t1 =>
    (if t1.1 = 0 then
    some (0, t1.2)
    else
    lp (fun (rc2 : St → Option (Int32 × St)) (x2l : St) =>
    bd (m_X12_passes n x2l 22) (fun t3 =>
    (if t3.1 = 0 then
    some (1, t3.2)
    else
    bd (G_X12_readCond n d 1 t3.2) (fun t4 =>
    (if t4.1 = 0 then
    some (0, t4.2)
    else
    bd (m_X12_emits n t4.2 14 0) (fun t5 =>
    rc2 t5)))))) n t1.2))
  | d + 1, 1, v0 =>
    bd (G_X12_readCond n d 2 v0) (fun t1 =>
    (if t1.1 = 0 then
    some (0, t1.2)
    else
    lp (fun (rc2 : St → Option (Int32 × St)) (x2l : St) =>
    bd (m_X12_passes n x2l 21) (fun t3 =>
    (if t3.1 = 0 then
    some (1, t3.2)
    else
    bd (G_X12_readCond n d 2 t3.2) (fun t4 =>
    (if t4.1 = 0 then
    some (0, t4.2)
    else
    bd (m_X12_emits n t4.2 13 0) (fun t5 =>
    rc2 t5)))))) n t1.2))
  | d + 1, _, v0 =>
    bd (m_X12_sign n v0 40) (fun t1 =>
    (if t1.1 = 0 then
    bd (m_X12_passes n t1.2 20) (fun t2 =>
    (if t2.1 = 0 then
    bd (m_X12_readTag n t2.2) (fun t3 =>
    (if t3.1 = 0 then
    bd (m_X12_readSum n t3.2) (fun t4 =>
    (if t4.1 = 0 then
    some (0, t4.2)
    else
    bd (m_X12_sign n t4.2 60) (fun t5 =>
    jn (fun (t6 : St) =>
    bd (m_X12_readSum n t6) (fun t7 =>
    (if t7.1 = 0 then
    some (0, t7.2)
    else
    bd ((if t5.1 = 0 then
    some 11
    else
    some 10)) (fun (t8 : Int32) =>
    bd (m_X12_emits n t7.2 t8 0) (fun t9 =>
    some (1, t9)))))) (fun (K6 : St → Option (Int32 × St)) =>
    (if t5.1 = 0 then
    bd (m_X12_sign n t5.2 62) (fun t10 =>
    (if t10.1 = 0 then
    some (0, t10.2)
    else
    K6 t10.2))
    else
    K6 t5.2)))))
    else
    some (1, t3.2)))
    else
    (if (t2.2 13 0) = 6 then
    some (0, t2.2)
    else
    nm (su t2.2 13 0 ((t2.2 13 0) + 1)) (fun u11 =>
    bd (G_X12_readCond n d 2 u11) (fun t12 =>
    (if t12.1 = 0 then
    some (0, t12.2)
    else
    nm (su t12.2 13 0 ((t12.2 13 0) - 1)) (fun u13 =>
    bd (m_X12_emits n u13 12 0) (fun t14 =>
    some (1, t14)))))))))
    else
    (if (t1.2 13 0) = 6 then
    some (0, t1.2)
    else
    nm (su t1.2 13 0 ((t1.2 13 0) + 1)) (fun u15 =>
    bd (G_X12_readCond n d 0 u15) (fun t16 =>
    (if t16.1 = 0 then
    some (0, t16.2)
    else
    nm (su t16.2 13 0 ((t16.2 13 0) - 1)) (fun u17 =>
    bd (m_X12_sign n u17 41) (fun t18 =>
    (if isb t18.1 then some (t18.1, t18.2) else none)))))))))
set_option maxHeartbeats 4000000 in
set_option maxRecDepth 100000 in
theorem c_G_X12_readCond (l : Launch) (D : va_G) (y : Nat → ClassId) (ek : EK) (n : Nat) : ∀ d : Nat, (∀ (a0 : Nat → Nat) (v0 : St) (res : Int32 × St), G_X12_readCond n d 0 v0  = some res → CI l yX12_readCond wX12_readCond { frames := 1 * d + 7, cells := 0, slots := 0, locals := 21 * d + 149 } D y ek [.ref (a0 0)] [bX12 y a0 v0] (res.1) [bX12 y a0 res.2] 0 0) ∧ (∀ (a0 : Nat → Nat) (v0 : St) (res : Int32 × St), G_X12_readCond n d 1 v0  = some res → CI l yX12_readAllOf wX12_readAllOf { frames := 1 * d + 7, cells := 0, slots := 0, locals := 21 * d + 149 } D y ek [.ref (a0 0)] [bX12 y a0 v0] (res.1) [bX12 y a0 res.2] 0 0) ∧ (∀ (a0 : Nat → Nat) (v0 : St) (res : Int32 × St), G_X12_readCond n d 2 v0  = some res → CI l yX12_readAtom wX12_readAtom { frames := 1 * d + 7, cells := 0, slots := 0, locals := 21 * d + 149 } D y ek [.ref (a0 0)] [bX12 y a0 v0] (res.1) [bX12 y a0 res.2] 0 0) := by
  intro d
  induction d with
  | zero =>
    refine ⟨?_, ?_, ?_⟩
    · intro a0 v0 res hf
      cases hf
    · intro a0 v0 res hf
      cases hf
    · intro a0 v0 res hf
      cases hf
  | succ d ih =>
    obtain ⟨gh0, gh1, gh2⟩ := ih
    refine ⟨?_, ?_, ?_⟩
    · intro a0 v0 res hf
      unfold G_X12_readCond at hf
      refine ci_of (cc := cX12_readCond) (maxL := 1) (by decide) rfl rfl (Nat.le_of_ble_eq_true rfl) ?_
      intro p e s m below meth c Q A F hret
      refine a_lv (lv' := [(0, .ref (a0 0))]) rfl ?_
      refine a_aloadn (pc := 0) (j := 0) F dX12_readCond_0 rfl rfl ?_
      obtain ⟨t1, ht1, hf⟩ := bd_some hf
      refine a_callV (pc := 1) (bs' := [bX12 y a0 t1.2]) (kb := 0) (j := 0) F [0] (gh1 a0 _ _ ht1) (cwV 0 F.1.2.2.2.2 (gV q7_23 q7_25 qs_45 q1_11 q7_26) rfl rfl rfl (by decide +kernel) ⟨by show (1 * d + 7) + 1 ≤ 1 * (d + 1) + 7; omega, by show 8 + (1 + 11) + (21 * d + 149) ≤ 21 * (d + 1) + 149; omega⟩) rfl rfl rfl rfl (by decide) rfl rfl rfl rfl rfl rfl (Nat.le_of_ble_eq_true rfl) ⟨Nat.zero_le _, Nat.zero_le _⟩ dX12_readCond_1 ?_
      refine a_if_ne (pc := 4) (tgt := 9) F dX12_readCond_4 (by decide) (fun h => ?_) (fun h => ?_)
      · replace hf := it_neg h hf
        refine a_loop 9 (fun (x2l : St) => [(0, .ref (a0 0))]) (fun (x2l : St) => [bX12 y a0 x2l]) (fun rc2 x2l ih2 hf => ?_) hf rfl rfl
        try dsimp only at hf ⊢
        refine a_aloadn (pc := 9) (j := 0) F dX12_readCond_9 rfl rfl ?_
        refine a_ldcS (pc := 10) (tx := "or") F 22 rfl dX12_readCond_10 ?_
        obtain ⟨t3, ht3, hf⟩ := bd_some hf
        refine a_callV (pc := 12) (bs' := [bX12 y a0 t3.2]) (kb := 0) (j := 0) F [0] (c_X12_passes l D y ek n a0 _ _ _ ht3) (cwV 1 F.1.2.2.2.2 (gV q6_205 q6_207 qs_36 q1_11 q6_208) rfl rfl rfl (by decide +kernel) ⟨by show 6 ≤ 1 * (d + 1) + 7; omega, by show 129 ≤ 21 * (d + 1) + 149; omega⟩) rfl rfl rfl rfl (by decide) rfl rfl rfl rfl rfl rfl (Nat.le_of_ble_eq_true rfl) ⟨Nat.zero_le _, Nat.zero_le _⟩ dX12_readCond_12 ?_
        refine a_if_eq (pc := 15) (tgt := 37) F dX12_readCond_15 (by decide) (fun h => ?_) (fun h => ?_)
        · replace hf := it_pos h hf
          refine a_iconst (pc := 37) F dX12_readCond_37 kc_1 ?_
          obtain rfl := Option.some.inj hf
          exact hret _ _ _ _ (Nat.zero_le _) (Nat.zero_le _) (z_nar (Or.inr rfl)) dX12_readCond_38
        · replace hf := it_neg h hf
          refine a_aloadn (pc := 18) (j := 0) F dX12_readCond_18 rfl rfl ?_
          obtain ⟨t4, ht4, hf⟩ := bd_some hf
          refine a_callV (pc := 19) (bs' := [bX12 y a0 t4.2]) (kb := 0) (j := 0) F [0] (gh1 a0 _ _ ht4) (cwV 0 F.1.2.2.2.2 (gV q7_23 q7_25 qs_45 q1_11 q7_26) rfl rfl rfl (by decide +kernel) ⟨by show (1 * d + 7) + 1 ≤ 1 * (d + 1) + 7; omega, by show 8 + (1 + 11) + (21 * d + 149) ≤ 21 * (d + 1) + 149; omega⟩) rfl rfl rfl rfl (by decide) rfl rfl rfl rfl rfl rfl (Nat.le_of_ble_eq_true rfl) ⟨Nat.zero_le _, Nat.zero_le _⟩ dX12_readCond_19 ?_
          refine a_if_ne (pc := 22) (tgt := 27) F dX12_readCond_22 (by decide) (fun h => ?_) (fun h => ?_)
          · replace hf := it_neg h hf
            refine a_aloadn (pc := 27) (j := 0) F dX12_readCond_27 rfl rfl ?_
            refine a_bipush (pc := 28) F dX12_readCond_28 kb_14 ?_
            refine a_iconst (pc := 30) F dX12_readCond_30 kc_0 ?_
            obtain ⟨t5, ht5, hf⟩ := bd_some hf
            refine a_callVv (pc := 31) (bs' := [bX12 y a0 t5]) (kb := 0) (j := 0) F [0] (c_X12_emits l D y ek n a0 _ _ _ _ ht5) (cwV 2 F.1.2.2.2.2 (gV q7_36 q7_38 qs_48 q1_11 q7_39) rfl rfl rfl (by decide +kernel) ⟨by show 1 ≤ 1 * (d + 1) + 7; omega, by show 22 ≤ 21 * (d + 1) + 149; omega⟩) rfl rfl rfl rfl (by decide) rfl rfl rfl rfl rfl rfl (Nat.le_of_ble_eq_true rfl) ⟨Nat.zero_le _, Nat.zero_le _⟩ dX12_readCond_31 ?_
            refine a_goto (pc := 34) (tgt := 9) F dX12_readCond_34 (by decide) ?_
            exact ih2 t5 hf
          · replace hf := it_pos h hf
            refine a_iconst (pc := 25) F dX12_readCond_25 kc_0 ?_
            obtain rfl := Option.some.inj hf
            exact hret _ _ _ _ (Nat.zero_le _) (Nat.zero_le _) (z_nar (Or.inl rfl)) dX12_readCond_26
      · replace hf := it_pos h hf
        refine a_iconst (pc := 7) F dX12_readCond_7 kc_0 ?_
        obtain rfl := Option.some.inj hf
        exact hret _ _ _ _ (Nat.zero_le _) (Nat.zero_le _) (z_nar (Or.inl rfl)) dX12_readCond_8
    · intro a0 v0 res hf
      unfold G_X12_readCond at hf
      refine ci_of (cc := cX12_readAllOf) (maxL := 1) (by decide) rfl rfl (Nat.le_of_ble_eq_true rfl) ?_
      intro p e s m below meth c Q A F hret
      refine a_lv (lv' := [(0, .ref (a0 0))]) rfl ?_
      refine a_aloadn (pc := 0) (j := 0) F dX12_readAllOf_0 rfl rfl ?_
      obtain ⟨t1, ht1, hf⟩ := bd_some hf
      refine a_callV (pc := 1) (bs' := [bX12 y a0 t1.2]) (kb := 0) (j := 0) F [0] (gh2 a0 _ _ ht1) (cwV 0 F.1.2.2.2.2 (gV q7_27 q7_29 qs_46 q1_11 q7_30) rfl rfl rfl (by decide +kernel) ⟨by show (1 * d + 7) + 1 ≤ 1 * (d + 1) + 7; omega, by show 8 + (2 + 11) + (21 * d + 149) ≤ 21 * (d + 1) + 149; omega⟩) rfl rfl rfl rfl (by decide) rfl rfl rfl rfl rfl rfl (Nat.le_of_ble_eq_true rfl) ⟨Nat.zero_le _, Nat.zero_le _⟩ dX12_readAllOf_1 ?_
      refine a_if_ne (pc := 4) (tgt := 9) F dX12_readAllOf_4 (by decide) (fun h => ?_) (fun h => ?_)
      · replace hf := it_neg h hf
        refine a_loop 9 (fun (x2l : St) => [(0, .ref (a0 0))]) (fun (x2l : St) => [bX12 y a0 x2l]) (fun rc2 x2l ih2 hf => ?_) hf rfl rfl
        try dsimp only at hf ⊢
        refine a_aloadn (pc := 9) (j := 0) F dX12_readAllOf_9 rfl rfl ?_
        refine a_ldcS (pc := 10) (tx := "and") F 21 rfl dX12_readAllOf_10 ?_
        obtain ⟨t3, ht3, hf⟩ := bd_some hf
        refine a_callV (pc := 12) (bs' := [bX12 y a0 t3.2]) (kb := 0) (j := 0) F [0] (c_X12_passes l D y ek n a0 _ _ _ ht3) (cwV 1 F.1.2.2.2.2 (gV q6_205 q6_207 qs_36 q1_11 q6_208) rfl rfl rfl (by decide +kernel) ⟨by show 6 ≤ 1 * (d + 1) + 7; omega, by show 129 ≤ 21 * (d + 1) + 149; omega⟩) rfl rfl rfl rfl (by decide) rfl rfl rfl rfl rfl rfl (Nat.le_of_ble_eq_true rfl) ⟨Nat.zero_le _, Nat.zero_le _⟩ dX12_readAllOf_12 ?_
        refine a_if_eq (pc := 15) (tgt := 37) F dX12_readAllOf_15 (by decide) (fun h => ?_) (fun h => ?_)
        · replace hf := it_pos h hf
          refine a_iconst (pc := 37) F dX12_readAllOf_37 kc_1 ?_
          obtain rfl := Option.some.inj hf
          exact hret _ _ _ _ (Nat.zero_le _) (Nat.zero_le _) (z_nar (Or.inr rfl)) dX12_readAllOf_38
        · replace hf := it_neg h hf
          refine a_aloadn (pc := 18) (j := 0) F dX12_readAllOf_18 rfl rfl ?_
          obtain ⟨t4, ht4, hf⟩ := bd_some hf
          refine a_callV (pc := 19) (bs' := [bX12 y a0 t4.2]) (kb := 0) (j := 0) F [0] (gh2 a0 _ _ ht4) (cwV 0 F.1.2.2.2.2 (gV q7_27 q7_29 qs_46 q1_11 q7_30) rfl rfl rfl (by decide +kernel) ⟨by show (1 * d + 7) + 1 ≤ 1 * (d + 1) + 7; omega, by show 8 + (2 + 11) + (21 * d + 149) ≤ 21 * (d + 1) + 149; omega⟩) rfl rfl rfl rfl (by decide) rfl rfl rfl rfl rfl rfl (Nat.le_of_ble_eq_true rfl) ⟨Nat.zero_le _, Nat.zero_le _⟩ dX12_readAllOf_19 ?_
          refine a_if_ne (pc := 22) (tgt := 27) F dX12_readAllOf_22 (by decide) (fun h => ?_) (fun h => ?_)
          · replace hf := it_neg h hf
            refine a_aloadn (pc := 27) (j := 0) F dX12_readAllOf_27 rfl rfl ?_
            refine a_bipush (pc := 28) F dX12_readAllOf_28 kb_13 ?_
            refine a_iconst (pc := 30) F dX12_readAllOf_30 kc_0 ?_
            obtain ⟨t5, ht5, hf⟩ := bd_some hf
            refine a_callVv (pc := 31) (bs' := [bX12 y a0 t5]) (kb := 0) (j := 0) F [0] (c_X12_emits l D y ek n a0 _ _ _ _ ht5) (cwV 2 F.1.2.2.2.2 (gV q7_36 q7_38 qs_48 q1_11 q7_39) rfl rfl rfl (by decide +kernel) ⟨by show 1 ≤ 1 * (d + 1) + 7; omega, by show 22 ≤ 21 * (d + 1) + 149; omega⟩) rfl rfl rfl rfl (by decide) rfl rfl rfl rfl rfl rfl (Nat.le_of_ble_eq_true rfl) ⟨Nat.zero_le _, Nat.zero_le _⟩ dX12_readAllOf_31 ?_
            refine a_goto (pc := 34) (tgt := 9) F dX12_readAllOf_34 (by decide) ?_
            exact ih2 t5 hf
          · replace hf := it_pos h hf
            refine a_iconst (pc := 25) F dX12_readAllOf_25 kc_0 ?_
            obtain rfl := Option.some.inj hf
            exact hret _ _ _ _ (Nat.zero_le _) (Nat.zero_le _) (z_nar (Or.inl rfl)) dX12_readAllOf_26
      · replace hf := it_pos h hf
        refine a_iconst (pc := 7) F dX12_readAllOf_7 kc_0 ?_
        obtain rfl := Option.some.inj hf
        exact hret _ _ _ _ (Nat.zero_le _) (Nat.zero_le _) (z_nar (Or.inl rfl)) dX12_readAllOf_8
    · intro a0 v0 res hf
      unfold G_X12_readCond at hf
      refine ci_of (cc := cX12_readAtom) (maxL := 2) (by decide) rfl rfl (Nat.le_of_ble_eq_true rfl) ?_
      intro p e s m below meth c Q A F hret
      refine a_lv (lv' := [(0, .ref (a0 0))]) rfl ?_
      refine a_aloadn (pc := 0) (j := 0) F dX12_readAtom_0 rfl rfl ?_
      refine a_bipush (pc := 1) F dX12_readAtom_1 kb_40 ?_
      obtain ⟨t1, ht1, hf⟩ := bd_some hf
      refine a_callV (pc := 3) (bs' := [bX12 y a0 t1.2]) (kb := 0) (j := 0) F [0] (c_X12_sign l D y ek n a0 _ _ _ ht1) (cwV 1 F.1.2.2.2.2 (gV q7_31 q7_33 qs_47 q1_11 q7_34) rfl rfl rfl (by decide +kernel) ⟨by show 3 ≤ 1 * (d + 1) + 7; omega, by show 63 ≤ 21 * (d + 1) + 149; omega⟩) rfl rfl rfl rfl (by decide) rfl rfl rfl rfl rfl rfl (Nat.le_of_ble_eq_true rfl) ⟨Nat.zero_le _, Nat.zero_le _⟩ dX12_readAtom_3 ?_
      refine a_if_eq (pc := 6) (tgt := 56) F dX12_readAtom_6 (by decide) (fun h => ?_) (fun h => ?_)
      · replace hf := it_pos h hf
        refine a_aloadn (pc := 56) (j := 0) F dX12_readAtom_56 rfl rfl ?_
        refine a_ldcS (pc := 57) (tx := "not") F 20 rfl dX12_readAtom_57 ?_
        obtain ⟨t2, ht2, hf⟩ := bd_some hf
        refine a_callV (pc := 59) (bs' := [bX12 y a0 t2.2]) (kb := 0) (j := 0) F [0] (c_X12_passes l D y ek n a0 _ _ _ ht2) (cwV 1 F.1.2.2.2.2 (gV q6_205 q6_207 qs_36 q1_11 q6_208) rfl rfl rfl (by decide +kernel) ⟨by show 6 ≤ 1 * (d + 1) + 7; omega, by show 129 ≤ 21 * (d + 1) + 149; omega⟩) rfl rfl rfl rfl (by decide) rfl rfl rfl rfl rfl rfl (Nat.le_of_ble_eq_true rfl) ⟨Nat.zero_le _, Nat.zero_le _⟩ dX12_readAtom_59 ?_
        refine a_if_eq (pc := 62) (tgt := 114) F dX12_readAtom_62 (by decide) (fun h => ?_) (fun h => ?_)
        · replace hf := it_pos h hf
          refine a_aloadn (pc := 114) (j := 0) F dX12_readAtom_114 rfl rfl ?_
          obtain ⟨t3, ht3, hf⟩ := bd_some hf
          refine a_callV (pc := 115) (bs' := [bX12 y a0 t3.2]) (kb := 0) (j := 0) F [0] (c_X12_readTag l D y ek n a0 _ _ ht3) (cwV 0 F.1.2.2.2.2 (gV q7_40 q7_42 qs_49 q1_11 q7_43) rfl rfl rfl (by decide +kernel) ⟨by show 6 ≤ 1 * (d + 1) + 7; omega, by show 129 ≤ 21 * (d + 1) + 149; omega⟩) rfl rfl rfl rfl (by decide) rfl rfl rfl rfl rfl rfl (Nat.le_of_ble_eq_true rfl) ⟨Nat.zero_le _, Nat.zero_le _⟩ dX12_readAtom_115 ?_
          refine a_if_eq (pc := 118) (tgt := 123) F dX12_readAtom_118 (by decide) (fun h => ?_) (fun h => ?_)
          · replace hf := it_pos h hf
            refine a_aloadn (pc := 123) (j := 0) F dX12_readAtom_123 rfl rfl ?_
            obtain ⟨t4, ht4, hf⟩ := bd_some hf
            refine a_callV (pc := 124) (bs' := [bX12 y a0 t4.2]) (kb := 0) (j := 0) F [0] (c_X12_readSum l D y ek n a0 _ _ ht4) (cwV 0 F.1.2.2.2.2 (gV q7_46 q7_48 qs_50 q1_11 q7_49) rfl rfl rfl (by decide +kernel) ⟨by show 7 ≤ 1 * (d + 1) + 7; omega, by show 149 ≤ 21 * (d + 1) + 149; omega⟩) rfl rfl rfl rfl (by decide) rfl rfl rfl rfl rfl rfl (Nat.le_of_ble_eq_true rfl) ⟨Nat.zero_le _, Nat.zero_le _⟩ dX12_readAtom_124 ?_
            refine a_if_ne (pc := 127) (tgt := 132) F dX12_readAtom_127 (by decide) (fun h => ?_) (fun h => ?_)
            · replace hf := it_neg h hf
              refine a_aloadn (pc := 132) (j := 0) F dX12_readAtom_132 rfl rfl ?_
              refine a_bipush (pc := 133) F dX12_readAtom_133 kb_60 ?_
              obtain ⟨t5, ht5, hf⟩ := bd_some hf
              refine a_callV (pc := 135) (bs' := [bX12 y a0 t5.2]) (kb := 0) (j := 0) F [0] (c_X12_sign l D y ek n a0 _ _ _ ht5) (cwV 1 F.1.2.2.2.2 (gV q7_31 q7_33 qs_47 q1_11 q7_34) rfl rfl rfl (by decide +kernel) ⟨by show 3 ≤ 1 * (d + 1) + 7; omega, by show 63 ≤ 21 * (d + 1) + 149; omega⟩) rfl rfl rfl rfl (by decide) rfl rfl rfl rfl rfl rfl (Nat.le_of_ble_eq_true rfl) ⟨Nat.zero_le _, Nat.zero_le _⟩ dX12_readAtom_135 ?_
              refine a_istoren (pc := 138) (lv' := [(0, .ref (a0 0)), (1, .int t5.1)]) F [1, 0] dX12_readAtom_138 rfl (by decide) rfl ?_
              refine a_iloadn (pc := 139) (j := 1) F dX12_readAtom_139 rfl rfl ?_
              refine a_jn 152 (fun (t6 : St) => [(0, .ref (a0 0)), (1, .int t5.1)]) (fun (t6 : St) => []) (fun (t6 : St) => [bX12 y a0 t6]) hf (fun t6 hf => ?_) (fun K6 hK6 hf => ?_)
              · try dsimp only at hf ⊢
                refine a_aloadn (pc := 152) (j := 0) F dX12_readAtom_152 rfl rfl ?_
                obtain ⟨t7, ht7, hf⟩ := bd_some hf
                refine a_callV (pc := 153) (bs' := [bX12 y a0 t7.2]) (kb := 0) (j := 0) F [0] (c_X12_readSum l D y ek n a0 _ _ ht7) (cwV 0 F.1.2.2.2.2 (gV q7_46 q7_48 qs_50 q1_11 q7_49) rfl rfl rfl (by decide +kernel) ⟨by show 7 ≤ 1 * (d + 1) + 7; omega, by show 149 ≤ 21 * (d + 1) + 149; omega⟩) rfl rfl rfl rfl (by decide) rfl rfl rfl rfl rfl rfl (Nat.le_of_ble_eq_true rfl) ⟨Nat.zero_le _, Nat.zero_le _⟩ dX12_readAtom_153 ?_
                refine a_if_ne (pc := 156) (tgt := 161) F dX12_readAtom_156 (by decide) (fun h => ?_) (fun h => ?_)
                · replace hf := it_neg h hf
                  refine a_aloadn (pc := 161) (j := 0) F dX12_readAtom_161 rfl rfl ?_
                  refine a_iloadn (pc := 162) (j := 1) F dX12_readAtom_162 rfl rfl ?_
                  refine a_join 173 (fun (t8 : Int32) => []) (fun (t8 : Int32) => [.int t8, .ref (a0 0)]) (fun (t8 : Int32) => [bX12 y a0 t7.2]) hf (fun t8 hf => ?_) (fun t8 hf J8 => ?_)
                  · try dsimp only at hf ⊢
                    refine a_iconst (pc := 173) F dX12_readAtom_173 kc_0 ?_
                    obtain ⟨t9, ht9, hf⟩ := bd_some hf
                    refine a_callVv (pc := 174) (bs' := [bX12 y a0 t9]) (kb := 0) (j := 0) F [0] (c_X12_emits l D y ek n a0 _ _ _ _ ht9) (cwV 2 F.1.2.2.2.2 (gV q7_36 q7_38 qs_48 q1_11 q7_39) rfl rfl rfl (by decide +kernel) ⟨by show 1 ≤ 1 * (d + 1) + 7; omega, by show 22 ≤ 21 * (d + 1) + 149; omega⟩) rfl rfl rfl rfl (by decide) rfl rfl rfl rfl rfl rfl (Nat.le_of_ble_eq_true rfl) ⟨Nat.zero_le _, Nat.zero_le _⟩ dX12_readAtom_174 ?_
                    refine a_iconst (pc := 177) F dX12_readAtom_177 kc_1 ?_
                    obtain rfl := Option.some.inj hf
                    exact hret _ _ _ _ (Nat.zero_le _) (Nat.zero_le _) (z_nar (Or.inr rfl)) dX12_readAtom_178
                  · refine a_if_eq (pc := 163) (tgt := 171) F dX12_readAtom_163 (by decide) (fun h => ?_) (fun h => ?_)
                    · replace hf := it_pos h hf
                      refine a_bipush (pc := 171) F dX12_readAtom_171 kb_11 ?_
                      refine a_sub [] rfl ?_
                      obtain rfl := Option.some.inj hf
                      exact J8
                    · replace hf := it_neg h hf
                      refine a_bipush (pc := 166) F dX12_readAtom_166 kb_10 ?_
                      refine a_goto (pc := 168) (tgt := 173) F dX12_readAtom_168 (by decide) ?_
                      refine a_sub [] rfl ?_
                      obtain rfl := Option.some.inj hf
                      exact J8
                · replace hf := it_pos h hf
                  refine a_iconst (pc := 159) F dX12_readAtom_159 kc_0 ?_
                  obtain rfl := Option.some.inj hf
                  exact hret _ _ _ _ (Nat.zero_le _) (Nat.zero_le _) (z_nar (Or.inl rfl)) dX12_readAtom_160
              · try dsimp only at hf
                refine a_if_ne (pc := 140) (tgt := 152) F dX12_readAtom_140 (by decide) (fun h => ?_) (fun h => ?_)
                · replace hf := it_neg h hf
                  exact hK6 t5.2 hf
                · replace hf := it_pos h hf
                  refine a_aloadn (pc := 143) (j := 0) F dX12_readAtom_143 rfl rfl ?_
                  refine a_bipush (pc := 144) F dX12_readAtom_144 kb_62 ?_
                  obtain ⟨t10, ht10, hf⟩ := bd_some hf
                  refine a_callV (pc := 146) (bs' := [bX12 y a0 t10.2]) (kb := 0) (j := 0) F [0] (c_X12_sign l D y ek n a0 _ _ _ ht10) (cwV 1 F.1.2.2.2.2 (gV q7_31 q7_33 qs_47 q1_11 q7_34) rfl rfl rfl (by decide +kernel) ⟨by show 3 ≤ 1 * (d + 1) + 7; omega, by show 63 ≤ 21 * (d + 1) + 149; omega⟩) rfl rfl rfl rfl (by decide) rfl rfl rfl rfl rfl rfl (Nat.le_of_ble_eq_true rfl) ⟨Nat.zero_le _, Nat.zero_le _⟩ dX12_readAtom_146 ?_
                  refine a_if_eq (pc := 149) (tgt := 159) F dX12_readAtom_149 (by decide) (fun h => ?_) (fun h => ?_)
                  · replace hf := it_pos h hf
                    refine a_iconst (pc := 159) F dX12_readAtom_159 kc_0 ?_
                    obtain rfl := Option.some.inj hf
                    exact hret _ _ _ _ (Nat.zero_le _) (Nat.zero_le _) (z_nar (Or.inl rfl)) dX12_readAtom_160
                  · replace hf := it_neg h hf
                    exact hK6 t10.2 hf
            · replace hf := it_pos h hf
              refine a_iconst (pc := 130) F dX12_readAtom_130 kc_0 ?_
              obtain rfl := Option.some.inj hf
              exact hret _ _ _ _ (Nat.zero_le _) (Nat.zero_le _) (z_nar (Or.inl rfl)) dX12_readAtom_131
          · replace hf := it_neg h hf
            refine a_iconst (pc := 121) F dX12_readAtom_121 kc_1 ?_
            obtain rfl := Option.some.inj hf
            exact hret _ _ _ _ (Nat.zero_le _) (Nat.zero_le _) (z_nar (Or.inr rfl)) dX12_readAtom_122
        · replace hf := it_neg h hf
          refine a_aloadn (pc := 65) (j := 0) F dX12_readAtom_65 rfl rfl ?_
          refine a_get (pc := 66) (kb := 0) (j := 0) (f := 13) F iW_X12 rfl rfl rfl (by decide) (tl q6_81) (fun _ h => h) rfl dX12_readAtom_66 ?_
          refine a_bipush (pc := 69) F dX12_readAtom_69 kb_6 ?_
          refine a_icmp_ne (pc := 71) (tgt := 76) F dX12_readAtom_71 (by decide) (fun h => ?_) (fun h => ?_)
          · replace hf := it_neg h hf
            refine a_aloadn (pc := 76) (j := 0) F dX12_readAtom_76 rfl rfl ?_
            refine a_dup (pc := 77) F dX12_readAtom_77 rfl ?_
            refine a_get (pc := 78) (kb := 0) (j := 0) (f := 13) F iW_X12 rfl rfl rfl (by decide) (tl q6_81) (fun _ h => h) rfl dX12_readAtom_78 ?_
            refine a_iconst (pc := 81) F dX12_readAtom_81 kc_1 ?_
            refine a_iadd (pc := 82) F dX12_readAtom_82 ?_
            obtain ⟨u11, eu11, hf⟩ := nm_some hf
            refine a_put (pc := 83) (kb := 0) (j := 0) (f := 13) (ty := .int) (bs' := [bX12 y a0 u11]) F iW_X12 rfl rfl rfl (by decide) (tl q6_81) (fun _ h => h) tyX12 tyX12_ok nmX12 rfl rfl rfl rfl (Nat.le_of_ble_eq_true rfl) (by rw [eu11]; rfl) dX12_readAtom_83 ?_
            refine a_aloadn (pc := 86) (j := 0) F dX12_readAtom_86 rfl rfl ?_
            obtain ⟨t12, ht12, hf⟩ := bd_some hf
            refine a_callV (pc := 87) (bs' := [bX12 y a0 t12.2]) (kb := 0) (j := 0) F [0] (gh2 a0 _ _ ht12) (cwV 0 F.1.2.2.2.2 (gV q7_27 q7_29 qs_46 q1_11 q7_30) rfl rfl rfl (by decide +kernel) ⟨by show (1 * d + 7) + 1 ≤ 1 * (d + 1) + 7; omega, by show 8 + (2 + 11) + (21 * d + 149) ≤ 21 * (d + 1) + 149; omega⟩) rfl rfl rfl rfl (by decide) rfl rfl rfl rfl rfl rfl (Nat.le_of_ble_eq_true rfl) ⟨Nat.zero_le _, Nat.zero_le _⟩ dX12_readAtom_87 ?_
            refine a_if_ne (pc := 90) (tgt := 95) F dX12_readAtom_90 (by decide) (fun h => ?_) (fun h => ?_)
            · replace hf := it_neg h hf
              refine a_aloadn (pc := 95) (j := 0) F dX12_readAtom_95 rfl rfl ?_
              refine a_dup (pc := 96) F dX12_readAtom_96 rfl ?_
              refine a_get (pc := 97) (kb := 0) (j := 0) (f := 13) F iW_X12 rfl rfl rfl (by decide) (tl q6_81) (fun _ h => h) rfl dX12_readAtom_97 ?_
              refine a_iconst (pc := 100) F dX12_readAtom_100 kc_1 ?_
              refine a_isub (pc := 101) F dX12_readAtom_101 ?_
              obtain ⟨u13, eu13, hf⟩ := nm_some hf
              refine a_put (pc := 102) (kb := 0) (j := 0) (f := 13) (ty := .int) (bs' := [bX12 y a0 u13]) F iW_X12 rfl rfl rfl (by decide) (tl q6_81) (fun _ h => h) tyX12 tyX12_ok nmX12 rfl rfl rfl rfl (Nat.le_of_ble_eq_true rfl) (by rw [eu13]; rfl) dX12_readAtom_102 ?_
              refine a_aloadn (pc := 105) (j := 0) F dX12_readAtom_105 rfl rfl ?_
              refine a_bipush (pc := 106) F dX12_readAtom_106 kb_12 ?_
              refine a_iconst (pc := 108) F dX12_readAtom_108 kc_0 ?_
              obtain ⟨t14, ht14, hf⟩ := bd_some hf
              refine a_callVv (pc := 109) (bs' := [bX12 y a0 t14]) (kb := 0) (j := 0) F [0] (c_X12_emits l D y ek n a0 _ _ _ _ ht14) (cwV 2 F.1.2.2.2.2 (gV q7_36 q7_38 qs_48 q1_11 q7_39) rfl rfl rfl (by decide +kernel) ⟨by show 1 ≤ 1 * (d + 1) + 7; omega, by show 22 ≤ 21 * (d + 1) + 149; omega⟩) rfl rfl rfl rfl (by decide) rfl rfl rfl rfl rfl rfl (Nat.le_of_ble_eq_true rfl) ⟨Nat.zero_le _, Nat.zero_le _⟩ dX12_readAtom_109 ?_
              refine a_iconst (pc := 112) F dX12_readAtom_112 kc_1 ?_
              obtain rfl := Option.some.inj hf
              exact hret _ _ _ _ (Nat.zero_le _) (Nat.zero_le _) (z_nar (Or.inr rfl)) dX12_readAtom_113
            · replace hf := it_pos h hf
              refine a_iconst (pc := 93) F dX12_readAtom_93 kc_0 ?_
              obtain rfl := Option.some.inj hf
              exact hret _ _ _ _ (Nat.zero_le _) (Nat.zero_le _) (z_nar (Or.inl rfl)) dX12_readAtom_94
          · replace hf := it_pos h hf
            refine a_iconst (pc := 74) F dX12_readAtom_74 kc_0 ?_
            obtain rfl := Option.some.inj hf
            exact hret _ _ _ _ (Nat.zero_le _) (Nat.zero_le _) (z_nar (Or.inl rfl)) dX12_readAtom_75
      · replace hf := it_neg h hf
        refine a_aloadn (pc := 9) (j := 0) F dX12_readAtom_9 rfl rfl ?_
        refine a_get (pc := 10) (kb := 0) (j := 0) (f := 13) F iW_X12 rfl rfl rfl (by decide) (tl q6_81) (fun _ h => h) rfl dX12_readAtom_10 ?_
        refine a_bipush (pc := 13) F dX12_readAtom_13 kb_6 ?_
        refine a_icmp_ne (pc := 15) (tgt := 20) F dX12_readAtom_15 (by decide) (fun h => ?_) (fun h => ?_)
        · replace hf := it_neg h hf
          refine a_aloadn (pc := 20) (j := 0) F dX12_readAtom_20 rfl rfl ?_
          refine a_dup (pc := 21) F dX12_readAtom_21 rfl ?_
          refine a_get (pc := 22) (kb := 0) (j := 0) (f := 13) F iW_X12 rfl rfl rfl (by decide) (tl q6_81) (fun _ h => h) rfl dX12_readAtom_22 ?_
          refine a_iconst (pc := 25) F dX12_readAtom_25 kc_1 ?_
          refine a_iadd (pc := 26) F dX12_readAtom_26 ?_
          obtain ⟨u15, eu15, hf⟩ := nm_some hf
          refine a_put (pc := 27) (kb := 0) (j := 0) (f := 13) (ty := .int) (bs' := [bX12 y a0 u15]) F iW_X12 rfl rfl rfl (by decide) (tl q6_81) (fun _ h => h) tyX12 tyX12_ok nmX12 rfl rfl rfl rfl (Nat.le_of_ble_eq_true rfl) (by rw [eu15]; rfl) dX12_readAtom_27 ?_
          refine a_aloadn (pc := 30) (j := 0) F dX12_readAtom_30 rfl rfl ?_
          obtain ⟨t16, ht16, hf⟩ := bd_some hf
          refine a_callV (pc := 31) (bs' := [bX12 y a0 t16.2]) (kb := 0) (j := 0) F [0] (gh0 a0 _ _ ht16) (cwV 0 F.1.2.2.2.2 (gV q7_19 q7_21 qs_44 q1_11 q7_22) rfl rfl rfl (by decide +kernel) ⟨by show (1 * d + 7) + 1 ≤ 1 * (d + 1) + 7; omega, by show 8 + (1 + 11) + (21 * d + 149) ≤ 21 * (d + 1) + 149; omega⟩) rfl rfl rfl rfl (by decide) rfl rfl rfl rfl rfl rfl (Nat.le_of_ble_eq_true rfl) ⟨Nat.zero_le _, Nat.zero_le _⟩ dX12_readAtom_31 ?_
          refine a_if_ne (pc := 34) (tgt := 39) F dX12_readAtom_34 (by decide) (fun h => ?_) (fun h => ?_)
          · replace hf := it_neg h hf
            refine a_aloadn (pc := 39) (j := 0) F dX12_readAtom_39 rfl rfl ?_
            refine a_dup (pc := 40) F dX12_readAtom_40 rfl ?_
            refine a_get (pc := 41) (kb := 0) (j := 0) (f := 13) F iW_X12 rfl rfl rfl (by decide) (tl q6_81) (fun _ h => h) rfl dX12_readAtom_41 ?_
            refine a_iconst (pc := 44) F dX12_readAtom_44 kc_1 ?_
            refine a_isub (pc := 45) F dX12_readAtom_45 ?_
            obtain ⟨u17, eu17, hf⟩ := nm_some hf
            refine a_put (pc := 46) (kb := 0) (j := 0) (f := 13) (ty := .int) (bs' := [bX12 y a0 u17]) F iW_X12 rfl rfl rfl (by decide) (tl q6_81) (fun _ h => h) tyX12 tyX12_ok nmX12 rfl rfl rfl rfl (Nat.le_of_ble_eq_true rfl) (by rw [eu17]; rfl) dX12_readAtom_46 ?_
            refine a_aloadn (pc := 49) (j := 0) F dX12_readAtom_49 rfl rfl ?_
            refine a_bipush (pc := 50) F dX12_readAtom_50 kb_41 ?_
            obtain ⟨t18, ht18, hf⟩ := bd_some hf
            refine a_callV (pc := 52) (bs' := [bX12 y a0 t18.2]) (kb := 0) (j := 0) F [0] (c_X12_sign l D y ek n a0 _ _ _ ht18) (cwV 1 F.1.2.2.2.2 (gV q7_31 q7_33 qs_47 q1_11 q7_34) rfl rfl rfl (by decide +kernel) ⟨by show 3 ≤ 1 * (d + 1) + 7; omega, by show 63 ≤ 21 * (d + 1) + 149; omega⟩) rfl rfl rfl rfl (by decide) rfl rfl rfl rfl rfl rfl (Nat.le_of_ble_eq_true rfl) ⟨Nat.zero_le _, Nat.zero_le _⟩ dX12_readAtom_52 ?_
            obtain ⟨hz, hf⟩ := gd_some hf
            obtain rfl := Option.some.inj hf
            exact hret _ _ _ _ (Nat.zero_le _) (Nat.zero_le _) (z_nar hz) dX12_readAtom_55
          · replace hf := it_pos h hf
            refine a_iconst (pc := 37) F dX12_readAtom_37 kc_0 ?_
            obtain rfl := Option.some.inj hf
            exact hret _ _ _ _ (Nat.zero_le _) (Nat.zero_le _) (z_nar (Or.inl rfl)) dX12_readAtom_38
        · replace hf := it_pos h hf
          refine a_iconst (pc := 18) F dX12_readAtom_18 kc_0 ?_
          obtain rfl := Option.some.inj hf
          exact hret _ _ _ _ (Nat.zero_le _) (Nat.zero_le _) (z_nar (Or.inl rfl)) dX12_readAtom_19
def m_X12_readCond (n : Nat) (v0 : St) : Option (Int32 × St) := G_X12_readCond n 64 0 v0 
theorem c_X12_readCond (l : Launch) (D : va_G) (y : Nat → ClassId) (ek : EK) (n : Nat) (a0 : Nat → Nat) (v0 : St) (res : Int32 × St) (hf : m_X12_readCond n v0 = some res) : CI l yX12_readCond wX12_readCond { frames := 71, cells := 0, slots := 0, locals := 1493 } D y ek [.ref (a0 0)] [bX12 y a0 v0] (res.1) [bX12 y a0 res.2] 0 0 :=
  (c_G_X12_readCond l D y ek n 64).1 a0 v0 res hf
def m_X12_readAllOf (n : Nat) (v0 : St) : Option (Int32 × St) := G_X12_readCond n 64 1 v0 
theorem c_X12_readAllOf (l : Launch) (D : va_G) (y : Nat → ClassId) (ek : EK) (n : Nat) (a0 : Nat → Nat) (v0 : St) (res : Int32 × St) (hf : m_X12_readAllOf n v0 = some res) : CI l yX12_readAllOf wX12_readAllOf { frames := 71, cells := 0, slots := 0, locals := 1493 } D y ek [.ref (a0 0)] [bX12 y a0 v0] (res.1) [bX12 y a0 res.2] 0 0 :=
  (c_G_X12_readCond l D y ek n 64).2.1 a0 v0 res hf
def m_X12_readAtom (n : Nat) (v0 : St) : Option (Int32 × St) := G_X12_readCond n 64 2 v0 
theorem c_X12_readAtom (l : Launch) (D : va_G) (y : Nat → ClassId) (ek : EK) (n : Nat) (a0 : Nat → Nat) (v0 : St) (res : Int32 × St) (hf : m_X12_readAtom n v0 = some res) : CI l yX12_readAtom wX12_readAtom { frames := 71, cells := 0, slots := 0, locals := 1493 } D y ek [.ref (a0 0)] [bX12 y a0 v0] (res.1) [bX12 y a0 res.2] 0 0 :=
  (c_G_X12_readCond l D y ek n 64).2.2 a0 v0 res hf



abbrev wX12_readLawLine : List Cond := Cond.code yX12_readLawLine cX12_readLawLine 3 (some .boolean) :: WALL
def m_X12_readLawLine (n : Nat) (v0 : St) (x1 : Int32) : Option (Int32 × St) :=
nm (1232 + (4 * x1)) (fun x2_1 =>
bd (m_X12_isWord n v0 23) (fun t2 =>
bd ((if t2 = 0 then
bd (m_X12_isWord n v0 24) (fun t19 =>
(if t19 = 0 then
bd (m_X12_isWord n v0 1) (fun t20 =>
(if t20 = 0 then
some (-1)
else
some 2))
else
some 1))
else
some 0)) (fun (t3 : Int32) =>
(if ix x2_1 2080 then nm (su v0 1 (x2_1).toNatClampNeg t3) (fun u5 =>
(if ix x2_1 2080 then (if 0 ≤ (u5 1 (x2_1).toNatClampNeg) then
bd (m_X12_number n u5 0 60) (fun t7 =>
(if ix (x2_1 + 1) 2080 then nm (su t7.2 1 ((x2_1 + 1)).toNatClampNeg t7.1) (fun u9 =>
(if ix (x2_1 + 1) 2080 then (if 0 ≤ (u9 1 ((x2_1 + 1)).toNatClampNeg) then
(if ix (x2_1 + 2) 2080 then nm (su u9 1 ((x2_1 + 2)).toNatClampNeg (u9 16 0)) (fun u12 =>
nm (su u12 13 0 0) (fun u13 =>
bd (m_X12_passes n u13 25) (fun t14 =>
jn (fun (t15 : St) =>
(if ix (x2_1 + 3) 2080 then nm (su t15 1 ((x2_1 + 3)).toNatClampNeg (t15 16 0)) (fun u17 =>
some (1, u17)) else none)) (fun (K15 : St → Option (Int32 × St)) =>
(if t14.1 = 0 then
K15 t14.2
else
bd (m_X12_readCond n t14.2) (fun t18 =>
(if t18.1 = 0 then
some (0, t18.2)
else
K15 t18.2))))))) else none)
else
some (0, u9)) else none)) else none))
else
some (0, u5)) else none)) else none))))
set_option maxHeartbeats 4000000 in
set_option maxRecDepth 100000 in
theorem c_X12_readLawLine (l : Launch) (D : va_G) (y : Nat → ClassId) (ek : EK) (n : Nat) (a0 : Nat → Nat) (v0 : St) (x1 : Int32) (res : Int32 × St) (hf : m_X12_readLawLine n v0 x1 = some res) : CI l yX12_readLawLine wX12_readLawLine { frames := 72, cells := 0, slots := 0, locals := 1513 } D y ek [.ref (a0 0), .int x1] [bX12 y a0 v0] (res.1) [bX12 y a0 res.2] 0 0 := by
  unfold m_X12_readLawLine at hf
  refine ci_of (cc := cX12_readLawLine) (maxL := 3) (by decide) rfl rfl (Nat.le_of_ble_eq_true rfl) ?_
  intro p e s m below meth c Q A F hret
  refine a_lv (lv' := [(0, .ref (a0 0)), (1, .int x1)]) rfl ?_
  refine a_sipush (pc := 0) F dX12_readLawLine_0 ks_1232 ?_
  refine a_iconst (pc := 3) F dX12_readLawLine_3 kc_4 ?_
  refine a_iloadn (pc := 4) (j := 1) F dX12_readLawLine_4 rfl rfl ?_
  refine a_imul (pc := 5) F dX12_readLawLine_5 ?_
  refine a_iadd (pc := 6) F dX12_readLawLine_6 ?_
  obtain ⟨x2_1, ex2_1, hf⟩ := nm_some hf
  refine a_nmi ex2_1 ?_
  refine a_istoren (pc := 7) (lv' := [(0, .ref (a0 0)), (1, .int x1), (2, .int x2_1)]) F [1, 2, 0] dX12_readLawLine_7 rfl (by decide) rfl ?_
  refine a_aloadn (pc := 8) (j := 0) F dX12_readLawLine_8 rfl rfl ?_
  refine a_get (pc := 9) (kb := 0) (j := 0) (f := 1) F iW_X12 rfl rfl rfl (by decide) (tl q6_69) (fun _ h => h) rfl dX12_readLawLine_9 ?_
  refine a_iloadn (pc := 12) (j := 2) F dX12_readLawLine_12 rfl rfl ?_
  refine a_aloadn (pc := 13) (j := 0) F dX12_readLawLine_13 rfl rfl ?_
  refine a_ldcS (pc := 14) (tx := "rent") F 23 rfl dX12_readLawLine_14 ?_
  obtain ⟨t2, ht2, hf⟩ := bd_some hf
  refine a_callV (pc := 16) (bs' := [bX12 y a0 v0]) (kb := 0) (j := 0) F [0] (c_X12_isWord l D y ek n a0 _ _ _ ht2) (cwV 1 F.1.2.2.2.2 (gV q6_186 q6_188 qs_32 q1_11 q6_189) rfl rfl rfl (by decide +kernel) ⟨Nat.le_of_ble_eq_true rfl, Nat.le_of_ble_eq_true rfl⟩) rfl rfl rfl rfl (by decide) rfl rfl rfl rfl rfl rfl (Nat.le_of_ble_eq_true rfl) ⟨Nat.zero_le _, Nat.zero_le _⟩ dX12_readLawLine_16 ?_
  refine a_join 53 (fun (t3 : Int32) => [(0, .ref (a0 0)), (2, .int x2_1)]) (fun (t3 : Int32) => [.int t3, .int x2_1, .ref (a0 2)]) (fun (t3 : Int32) => [bX12 y a0 v0]) hf (fun t3 hf => ?_) (fun t3 hf J3 => ?_)
  · try dsimp only at hf ⊢
    obtain ⟨h4, hf⟩ := gd_some hf
    obtain ⟨u5, eu5, hf⟩ := nm_some hf
    refine a_iast (pc := 53) (kb := 0) (j := 1) (bs' := [bX12 y a0 u5]) F rfl rfl h4 (by rw [eu5]; rfl) dX12_readLawLine_53 ?_
    refine a_aloadn (pc := 54) (j := 0) F dX12_readLawLine_54 rfl rfl ?_
    refine a_get (pc := 55) (kb := 0) (j := 0) (f := 1) F iW_X12 rfl rfl rfl (by decide) (tl q6_69) (fun _ h => h) rfl dX12_readLawLine_55 ?_
    refine a_iloadn (pc := 58) (j := 1) F dX12_readLawLine_58 rfl rfl ?_
    obtain ⟨h6, hf⟩ := gd_some hf
    refine a_iald (pc := 59) (kb := 0) (j := 1) F rfl rfl h6 dX12_readLawLine_59 ?_
    refine a_if_ge (pc := 60) (tgt := 65) F dX12_readLawLine_60 (by decide) (fun h => ?_) (fun h => ?_)
    · replace hf := it_pos h hf
      refine a_aloadn (pc := 65) (j := 0) F dX12_readLawLine_65 rfl rfl ?_
      refine a_get (pc := 66) (kb := 0) (j := 0) (f := 1) F iW_X12 rfl rfl rfl (by decide) (tl q6_69) (fun _ h => h) rfl dX12_readLawLine_66 ?_
      refine a_iloadn (pc := 69) (j := 1) F dX12_readLawLine_69 rfl rfl ?_
      refine a_iconst (pc := 70) F dX12_readLawLine_70 kc_1 ?_
      refine a_iadd (pc := 71) F dX12_readLawLine_71 ?_
      refine a_aloadn (pc := 72) (j := 0) F dX12_readLawLine_72 rfl rfl ?_
      refine a_iconst (pc := 73) F dX12_readLawLine_73 kc_0 ?_
      refine a_bipush (pc := 74) F dX12_readLawLine_74 kb_60 ?_
      obtain ⟨t7, ht7, hf⟩ := bd_some hf
      refine a_callV (pc := 76) (bs' := [bX12 y a0 t7.2]) (kb := 0) (j := 0) F [0] (c_X12_number l D y ek n a0 _ _ _ _ ht7) (cwV 2 F.1.2.2.2.2 (gV q6_200 q6_202 qs_35 q1_11 q6_203) rfl rfl rfl (by decide +kernel) ⟨Nat.le_of_ble_eq_true rfl, Nat.le_of_ble_eq_true rfl⟩) rfl rfl rfl rfl (by decide) rfl rfl rfl rfl rfl rfl (Nat.le_of_ble_eq_true rfl) ⟨Nat.zero_le _, Nat.zero_le _⟩ dX12_readLawLine_76 ?_
      obtain ⟨h8, hf⟩ := gd_some hf
      obtain ⟨u9, eu9, hf⟩ := nm_some hf
      refine a_iast (pc := 79) (kb := 0) (j := 1) (bs' := [bX12 y a0 u9]) F rfl rfl h8 (by rw [eu9]; rfl) dX12_readLawLine_79 ?_
      refine a_aloadn (pc := 80) (j := 0) F dX12_readLawLine_80 rfl rfl ?_
      refine a_get (pc := 81) (kb := 0) (j := 0) (f := 1) F iW_X12 rfl rfl rfl (by decide) (tl q6_69) (fun _ h => h) rfl dX12_readLawLine_81 ?_
      refine a_iloadn (pc := 84) (j := 1) F dX12_readLawLine_84 rfl rfl ?_
      refine a_iconst (pc := 85) F dX12_readLawLine_85 kc_1 ?_
      refine a_iadd (pc := 86) F dX12_readLawLine_86 ?_
      obtain ⟨h10, hf⟩ := gd_some hf
      refine a_iald (pc := 87) (kb := 0) (j := 1) F rfl rfl h10 dX12_readLawLine_87 ?_
      refine a_if_ge (pc := 88) (tgt := 93) F dX12_readLawLine_88 (by decide) (fun h => ?_) (fun h => ?_)
      · replace hf := it_pos h hf
        refine a_aloadn (pc := 93) (j := 0) F dX12_readLawLine_93 rfl rfl ?_
        refine a_get (pc := 94) (kb := 0) (j := 0) (f := 1) F iW_X12 rfl rfl rfl (by decide) (tl q6_69) (fun _ h => h) rfl dX12_readLawLine_94 ?_
        refine a_iloadn (pc := 97) (j := 1) F dX12_readLawLine_97 rfl rfl ?_
        refine a_iconst (pc := 98) F dX12_readLawLine_98 kc_2 ?_
        refine a_iadd (pc := 99) F dX12_readLawLine_99 ?_
        refine a_aloadn (pc := 100) (j := 0) F dX12_readLawLine_100 rfl rfl ?_
        refine a_get (pc := 101) (kb := 0) (j := 0) (f := 16) F iW_X12 rfl rfl rfl (by decide) (tl q6_84) (fun _ h => h) rfl dX12_readLawLine_101 ?_
        obtain ⟨h11, hf⟩ := gd_some hf
        obtain ⟨u12, eu12, hf⟩ := nm_some hf
        refine a_iast (pc := 104) (kb := 0) (j := 1) (bs' := [bX12 y a0 u12]) F rfl rfl h11 (by rw [eu12]; rfl) dX12_readLawLine_104 ?_
        refine a_aloadn (pc := 105) (j := 0) F dX12_readLawLine_105 rfl rfl ?_
        refine a_iconst (pc := 106) F dX12_readLawLine_106 kc_0 ?_
        obtain ⟨u13, eu13, hf⟩ := nm_some hf
        refine a_put (pc := 107) (kb := 0) (j := 0) (f := 13) (ty := .int) (bs' := [bX12 y a0 u13]) F iW_X12 rfl rfl rfl (by decide) (tl q6_81) (fun _ h => h) tyX12 tyX12_ok nmX12 rfl rfl rfl rfl (Nat.le_of_ble_eq_true rfl) (by rw [eu13]; rfl) dX12_readLawLine_107 ?_
        refine a_aloadn (pc := 110) (j := 0) F dX12_readLawLine_110 rfl rfl ?_
        refine a_ldcS (pc := 111) (tx := "if") F 25 rfl dX12_readLawLine_111 ?_
        obtain ⟨t14, ht14, hf⟩ := bd_some hf
        refine a_callV (pc := 113) (bs' := [bX12 y a0 t14.2]) (kb := 0) (j := 0) F [0] (c_X12_passes l D y ek n a0 _ _ _ ht14) (cwV 1 F.1.2.2.2.2 (gV q6_205 q6_207 qs_36 q1_11 q6_208) rfl rfl rfl (by decide +kernel) ⟨Nat.le_of_ble_eq_true rfl, Nat.le_of_ble_eq_true rfl⟩) rfl rfl rfl rfl (by decide) rfl rfl rfl rfl rfl rfl (Nat.le_of_ble_eq_true rfl) ⟨Nat.zero_le _, Nat.zero_le _⟩ dX12_readLawLine_113 ?_
        refine a_jn 128 (fun (t15 : St) => [(0, .ref (a0 0)), (2, .int x2_1)]) (fun (t15 : St) => []) (fun (t15 : St) => [bX12 y a0 t15]) hf (fun t15 hf => ?_) (fun K15 hK15 hf => ?_)
        · try dsimp only at hf ⊢
          refine a_aloadn (pc := 128) (j := 0) F dX12_readLawLine_128 rfl rfl ?_
          refine a_get (pc := 129) (kb := 0) (j := 0) (f := 1) F iW_X12 rfl rfl rfl (by decide) (tl q6_69) (fun _ h => h) rfl dX12_readLawLine_129 ?_
          refine a_iloadn (pc := 132) (j := 1) F dX12_readLawLine_132 rfl rfl ?_
          refine a_iconst (pc := 133) F dX12_readLawLine_133 kc_3 ?_
          refine a_iadd (pc := 134) F dX12_readLawLine_134 ?_
          refine a_aloadn (pc := 135) (j := 0) F dX12_readLawLine_135 rfl rfl ?_
          refine a_get (pc := 136) (kb := 0) (j := 0) (f := 16) F iW_X12 rfl rfl rfl (by decide) (tl q6_84) (fun _ h => h) rfl dX12_readLawLine_136 ?_
          obtain ⟨h16, hf⟩ := gd_some hf
          obtain ⟨u17, eu17, hf⟩ := nm_some hf
          refine a_iast (pc := 139) (kb := 0) (j := 1) (bs' := [bX12 y a0 u17]) F rfl rfl h16 (by rw [eu17]; rfl) dX12_readLawLine_139 ?_
          refine a_iconst (pc := 140) F dX12_readLawLine_140 kc_1 ?_
          obtain rfl := Option.some.inj hf
          exact hret _ _ _ _ (Nat.zero_le _) (Nat.zero_le _) (z_nar (Or.inr rfl)) dX12_readLawLine_141
        · try dsimp only at hf
          refine a_if_eq (pc := 116) (tgt := 128) F dX12_readLawLine_116 (by decide) (fun h => ?_) (fun h => ?_)
          · replace hf := it_pos h hf
            exact hK15 t14.2 hf
          · replace hf := it_neg h hf
            refine a_aloadn (pc := 119) (j := 0) F dX12_readLawLine_119 rfl rfl ?_
            obtain ⟨t18, ht18, hf⟩ := bd_some hf
            refine a_callV (pc := 120) (bs' := [bX12 y a0 t18.2]) (kb := 0) (j := 0) F [0] (c_X12_readCond l D y ek n a0 _ _ ht18) (cwV 0 F.1.2.2.2.2 (gV q7_19 q7_21 qs_44 q1_11 q7_22) rfl rfl rfl (by decide +kernel) ⟨Nat.le_of_ble_eq_true rfl, Nat.le_of_ble_eq_true rfl⟩) rfl rfl rfl rfl (by decide) rfl rfl rfl rfl rfl rfl (Nat.le_of_ble_eq_true rfl) ⟨Nat.zero_le _, Nat.zero_le _⟩ dX12_readLawLine_120 ?_
            refine a_if_ne (pc := 123) (tgt := 128) F dX12_readLawLine_123 (by decide) (fun h => ?_) (fun h => ?_)
            · replace hf := it_neg h hf
              exact hK15 t18.2 hf
            · replace hf := it_pos h hf
              refine a_iconst (pc := 126) F dX12_readLawLine_126 kc_0 ?_
              obtain rfl := Option.some.inj hf
              exact hret _ _ _ _ (Nat.zero_le _) (Nat.zero_le _) (z_nar (Or.inl rfl)) dX12_readLawLine_127
      · replace hf := it_neg h hf
        refine a_iconst (pc := 91) F dX12_readLawLine_91 kc_0 ?_
        obtain rfl := Option.some.inj hf
        exact hret _ _ _ _ (Nat.zero_le _) (Nat.zero_le _) (z_nar (Or.inl rfl)) dX12_readLawLine_92
    · replace hf := it_neg h hf
      refine a_iconst (pc := 63) F dX12_readLawLine_63 kc_0 ?_
      obtain rfl := Option.some.inj hf
      exact hret _ _ _ _ (Nat.zero_le _) (Nat.zero_le _) (z_nar (Or.inl rfl)) dX12_readLawLine_64
  · refine a_if_eq (pc := 19) (tgt := 26) F dX12_readLawLine_19 (by decide) (fun h => ?_) (fun h => ?_)
    · replace hf := it_pos h hf
      refine a_aloadn (pc := 26) (j := 0) F dX12_readLawLine_26 rfl rfl ?_
      refine a_ldcS (pc := 27) (tx := "lure") F 24 rfl dX12_readLawLine_27 ?_
      obtain ⟨t19, ht19, hf⟩ := bd_some hf
      refine a_callV (pc := 29) (bs' := [bX12 y a0 v0]) (kb := 0) (j := 0) F [0] (c_X12_isWord l D y ek n a0 _ _ _ ht19) (cwV 1 F.1.2.2.2.2 (gV q6_186 q6_188 qs_32 q1_11 q6_189) rfl rfl rfl (by decide +kernel) ⟨Nat.le_of_ble_eq_true rfl, Nat.le_of_ble_eq_true rfl⟩) rfl rfl rfl rfl (by decide) rfl rfl rfl rfl rfl rfl (Nat.le_of_ble_eq_true rfl) ⟨Nat.zero_le _, Nat.zero_le _⟩ dX12_readLawLine_29 ?_
      refine a_if_eq (pc := 32) (tgt := 39) F dX12_readLawLine_32 (by decide) (fun h => ?_) (fun h => ?_)
      · replace hf := it_pos h hf
        refine a_aloadn (pc := 39) (j := 0) F dX12_readLawLine_39 rfl rfl ?_
        refine a_ldcS (pc := 40) (tx := "age") F 1 rfl dX12_readLawLine_40 ?_
        obtain ⟨t20, ht20, hf⟩ := bd_some hf
        refine a_callV (pc := 42) (bs' := [bX12 y a0 v0]) (kb := 0) (j := 0) F [0] (c_X12_isWord l D y ek n a0 _ _ _ ht20) (cwV 1 F.1.2.2.2.2 (gV q6_186 q6_188 qs_32 q1_11 q6_189) rfl rfl rfl (by decide +kernel) ⟨Nat.le_of_ble_eq_true rfl, Nat.le_of_ble_eq_true rfl⟩) rfl rfl rfl rfl (by decide) rfl rfl rfl rfl rfl rfl (Nat.le_of_ble_eq_true rfl) ⟨Nat.zero_le _, Nat.zero_le _⟩ dX12_readLawLine_42 ?_
        refine a_if_eq (pc := 45) (tgt := 52) F dX12_readLawLine_45 (by decide) (fun h => ?_) (fun h => ?_)
        · replace hf := it_pos h hf
          refine a_iconst (pc := 52) F dX12_readLawLine_52 kc_m1 ?_
          refine a_sub [0, 2] rfl ?_
          obtain rfl := Option.some.inj hf
          exact J3
        · replace hf := it_neg h hf
          refine a_iconst (pc := 48) F dX12_readLawLine_48 kc_2 ?_
          refine a_goto (pc := 49) (tgt := 53) F dX12_readLawLine_49 (by decide) ?_
          refine a_sub [0, 2] rfl ?_
          obtain rfl := Option.some.inj hf
          exact J3
      · replace hf := it_neg h hf
        refine a_iconst (pc := 35) F dX12_readLawLine_35 kc_1 ?_
        refine a_goto (pc := 36) (tgt := 53) F dX12_readLawLine_36 (by decide) ?_
        refine a_sub [0, 2] rfl ?_
        obtain rfl := Option.some.inj hf
        exact J3
    · replace hf := it_neg h hf
      refine a_iconst (pc := 22) F dX12_readLawLine_22 kc_0 ?_
      refine a_goto (pc := 23) (tgt := 53) F dX12_readLawLine_23 (by decide) ?_
      refine a_sub [0, 2] rfl ?_
      obtain rfl := Option.some.inj hf
      exact J3

abbrev wX12_readLine : List Cond := Cond.code yX12_readLine cX12_readLine 3 (some .boolean) :: WALL
def m_X12_readLine (n : Nat) (v0 : St) (x1 : Int32) (x2 : Int32) : Option (Int32 × St) :=
bd (m_X12_letters n v0) (fun t1 =>
bd ((if x1 = 0 then
some 12
else
some 14)) (fun (t2 : Int32) =>
jn (fun (t3 : St) =>
some (0, t3)) (fun (K3 : St → Option (Int32 × St)) =>
(if t2 ≤ x2 then
K3 t1
else
jn (fun (t4 : St) =>
some (1, t4)) (fun (K4 : St → Option (Int32 × St)) =>
(if x1 = 0 then
bd (m_X12_readLawLine n t1 x2) (fun t5 =>
(if t5.1 = 0 then
K3 t5.2
else
K4 t5.2))
else
bd (m_X12_readHillLine n t1) (fun t6 =>
(if t6.1 = 0 then
K3 t6.2
else
K4 t6.2))))))))
set_option maxHeartbeats 4000000 in
set_option maxRecDepth 100000 in
theorem c_X12_readLine (l : Launch) (D : va_G) (y : Nat → ClassId) (ek : EK) (n : Nat) (a0 : Nat → Nat) (v0 : St) (x1 : Int32) (x2 : Int32) (res : Int32 × St) (hf : m_X12_readLine n v0 x1 x2 = some res) : CI l yX12_readLine wX12_readLine { frames := 73, cells := 0, slots := 0, locals := 1535 } D y ek [.ref (a0 0), .int x1, .int x2] [bX12 y a0 v0] (res.1) [bX12 y a0 res.2] 0 0 := by
  unfold m_X12_readLine at hf
  refine ci_of (cc := cX12_readLine) (maxL := 3) (by decide) rfl rfl (Nat.le_of_ble_eq_true rfl) ?_
  intro p e s m below meth c Q A F hret
  refine a_lv (lv' := [(0, .ref (a0 0)), (1, .int x1), (2, .int x2)]) rfl ?_
  refine a_aloadn (pc := 0) (j := 0) F dX12_readLine_0 rfl rfl ?_
  obtain ⟨t1, ht1, hf⟩ := bd_some hf
  refine a_callVv (pc := 1) (bs' := [bX12 y a0 t1]) (kb := 0) (j := 0) F [0] (c_X12_letters l D y ek n a0 _ _ ht1) (cwV 0 F.1.2.2.2.2 (gV q6_177 q6_179 qs_30 q1_11 q6_180) rfl rfl rfl (by decide +kernel) ⟨Nat.le_of_ble_eq_true rfl, Nat.le_of_ble_eq_true rfl⟩) rfl rfl rfl rfl (by decide) rfl rfl rfl rfl rfl rfl (Nat.le_of_ble_eq_true rfl) ⟨Nat.zero_le _, Nat.zero_le _⟩ dX12_readLine_1 ?_
  refine a_iloadn (pc := 4) (j := 2) F dX12_readLine_4 rfl rfl ?_
  refine a_iloadn (pc := 5) (j := 1) F dX12_readLine_5 rfl rfl ?_
  refine a_join 16 (fun (t2 : Int32) => [(0, .ref (a0 0)), (1, .int x1), (2, .int x2)]) (fun (t2 : Int32) => [.int t2, .int x2]) (fun (t2 : Int32) => [bX12 y a0 t1]) hf (fun t2 hf => ?_) (fun t2 hf J2 => ?_)
  · try dsimp only at hf ⊢
    refine a_jn 45 (fun (t3 : St) => []) (fun (t3 : St) => []) (fun (t3 : St) => [bX12 y a0 t3]) hf (fun t3 hf => ?_) (fun K3 hK3 hf => ?_)
    · try dsimp only at hf ⊢
      refine a_iconst (pc := 45) F dX12_readLine_45 kc_0 ?_
      obtain rfl := Option.some.inj hf
      exact hret _ _ _ _ (Nat.zero_le _) (Nat.zero_le _) (z_nar (Or.inl rfl)) dX12_readLine_46
    · try dsimp only at hf
      refine a_icmp_ge (pc := 16) (tgt := 45) F dX12_readLine_16 (by decide) (fun h => ?_) (fun h => ?_)
      · replace hf := it_pos h hf
        refine a_sub [] rfl ?_
        exact hK3 t1 hf
      · replace hf := it_neg h hf
        refine a_iloadn (pc := 19) (j := 1) F dX12_readLine_19 rfl rfl ?_
        refine a_jn 41 (fun (t4 : St) => []) (fun (t4 : St) => []) (fun (t4 : St) => [bX12 y a0 t4]) hf (fun t4 hf => ?_) (fun K4 hK4 hf => ?_)
        · try dsimp only at hf ⊢
          refine a_iconst (pc := 41) F dX12_readLine_41 kc_1 ?_
          refine a_goto (pc := 42) (tgt := 46) F dX12_readLine_42 (by decide) ?_
          obtain rfl := Option.some.inj hf
          exact hret _ _ _ _ (Nat.zero_le _) (Nat.zero_le _) (z_nar (Or.inr rfl)) dX12_readLine_46
        · try dsimp only at hf
          refine a_if_eq (pc := 20) (tgt := 33) F dX12_readLine_20 (by decide) (fun h => ?_) (fun h => ?_)
          · replace hf := it_pos h hf
            refine a_aloadn (pc := 33) (j := 0) F dX12_readLine_33 rfl rfl ?_
            refine a_iloadn (pc := 34) (j := 2) F dX12_readLine_34 rfl rfl ?_
            obtain ⟨t5, ht5, hf⟩ := bd_some hf
            refine a_callV (pc := 35) (bs' := [bX12 y a0 t5.2]) (kb := 0) (j := 0) F [0] (c_X12_readLawLine l D y ek n a0 _ _ _ ht5) (cwV 1 F.1.2.2.2.2 (gV q7_12 q7_14 qs_43 q1_11 q7_15) rfl rfl rfl (by decide +kernel) ⟨Nat.le_of_ble_eq_true rfl, Nat.le_of_ble_eq_true rfl⟩) rfl rfl rfl rfl (by decide) rfl rfl rfl rfl rfl rfl (Nat.le_of_ble_eq_true rfl) ⟨Nat.zero_le _, Nat.zero_le _⟩ dX12_readLine_35 ?_
            refine a_if_eq (pc := 38) (tgt := 45) F dX12_readLine_38 (by decide) (fun h => ?_) (fun h => ?_)
            · replace hf := it_pos h hf
              refine a_sub [] rfl ?_
              exact hK3 t5.2 hf
            · replace hf := it_neg h hf
              refine a_sub [] rfl ?_
              exact hK4 t5.2 hf
          · replace hf := it_neg h hf
            refine a_aloadn (pc := 23) (j := 0) F dX12_readLine_23 rfl rfl ?_
            obtain ⟨t6, ht6, hf⟩ := bd_some hf
            refine a_callV (pc := 24) (bs' := [bX12 y a0 t6.2]) (kb := 0) (j := 0) F [0] (c_X12_readHillLine l D y ek n a0 _ _ ht6) (cwV 0 F.1.2.2.2.2 (gV q6_181 q6_183 qs_31 q1_11 q6_184) rfl rfl rfl (by decide +kernel) ⟨Nat.le_of_ble_eq_true rfl, Nat.le_of_ble_eq_true rfl⟩) rfl rfl rfl rfl (by decide) rfl rfl rfl rfl rfl rfl (Nat.le_of_ble_eq_true rfl) ⟨Nat.zero_le _, Nat.zero_le _⟩ dX12_readLine_24 ?_
            refine a_if_eq (pc := 27) (tgt := 45) F dX12_readLine_27 (by decide) (fun h => ?_) (fun h => ?_)
            · replace hf := it_pos h hf
              refine a_sub [] rfl ?_
              exact hK3 t6.2 hf
            · replace hf := it_neg h hf
              refine a_goto (pc := 30) (tgt := 41) F dX12_readLine_30 (by decide) ?_
              refine a_sub [] rfl ?_
              exact hK4 t6.2 hf
  · refine a_if_eq (pc := 6) (tgt := 14) F dX12_readLine_6 (by decide) (fun h => ?_) (fun h => ?_)
    · replace hf := it_pos h hf
      refine a_bipush (pc := 14) F dX12_readLine_14 kb_12 ?_
      obtain rfl := Option.some.inj hf
      exact J2
    · replace hf := it_neg h hf
      refine a_bipush (pc := 9) F dX12_readLine_9 kb_14 ?_
      refine a_goto (pc := 11) (tgt := 16) F dX12_readLine_11 (by decide) ?_
      obtain rfl := Option.some.inj hf
      exact J2

abbrev wX12_readAll : List Cond := Cond.code yX12_readAll cX12_readAll 3 (some .int) :: WALL
def m_X12_readAll (n : Nat) (v0 : St) (x1 : Int32) : Option (Int32 × St) :=
bd (m_X12_uses n v0) (fun t1 =>
nm (su t1 16 0 0) (fun u2 =>
bd (m_X12_blanks n u2) (fun t3 =>
(if (t3 10 0) = (t3 11 0) then
some (0, t3)
else
lp (fun (rc4 : Int32 × St → Option (Int32 × St)) (x4l : Int32 × St) =>
bd (m_X12_readLine n x4l.2 x1 x4l.1) (fun t5 =>
(if t5.1 = 0 then
some ((-1), t5.2)
else
bd (m_X12_blanks n t5.2) (fun t6 =>
(if (t6 10 0) = (t6 11 0) then
some ((x4l.1 + 1), t6)
else
bd (m_X12_isAt n t6 59 59) (fun t7 =>
(if t7 = 0 then
some ((-1), t6)
else
nm (su t6 10 0 ((t6 10 0) + 1)) (fun u8 =>
rc4 ((x4l.1 + 1), u8))))))))) n (0, t3)))))
set_option maxHeartbeats 4000000 in
set_option maxRecDepth 100000 in
theorem c_X12_readAll (l : Launch) (D : va_G) (y : Nat → ClassId) (ek : EK) (n : Nat) (a0 : Nat → Nat) (v0 : St) (x1 : Int32) (res : Int32 × St) (hf : m_X12_readAll n v0 x1 = some res) : CI l yX12_readAll wX12_readAll { frames := 74, cells := 0, slots := 0, locals := 1557 } D y ek [.ref (a0 0), .int x1] [bX12 y a0 v0] (res.1) [bX12 y a0 res.2] 0 0 := by
  unfold m_X12_readAll at hf
  refine ci_of (cc := cX12_readAll) (maxL := 3) (by decide) rfl rfl (Nat.le_of_ble_eq_true rfl) ?_
  intro p e s m below meth c Q A F hret
  refine a_lv (lv' := [(0, .ref (a0 0)), (1, .int x1)]) rfl ?_
  refine a_aloadn (pc := 0) (j := 0) F dX12_readAll_0 rfl rfl ?_
  obtain ⟨t1, ht1, hf⟩ := bd_some hf
  refine a_callVv (pc := 1) (bs' := [bX12 y a0 t1]) (kb := 0) (j := 0) F [0] (c_X12_uses l D y ek n a0 _ _ ht1) (cwV 0 F.1.2.2.2.2 (gV q6_161 q6_163 qs_26 q1_11 q6_164) rfl rfl rfl (by decide +kernel) ⟨Nat.le_of_ble_eq_true rfl, Nat.le_of_ble_eq_true rfl⟩) rfl rfl rfl rfl (by decide) rfl rfl rfl rfl rfl rfl (Nat.le_of_ble_eq_true rfl) ⟨Nat.zero_le _, Nat.zero_le _⟩ dX12_readAll_1 ?_
  refine a_aloadn (pc := 4) (j := 0) F dX12_readAll_4 rfl rfl ?_
  refine a_iconst (pc := 5) F dX12_readAll_5 kc_0 ?_
  obtain ⟨u2, eu2, hf⟩ := nm_some hf
  refine a_put (pc := 6) (kb := 0) (j := 0) (f := 16) (ty := .int) (bs' := [bX12 y a0 u2]) F iW_X12 rfl rfl rfl (by decide) (tl q6_84) (fun _ h => h) tyX12 tyX12_ok nmX12 rfl rfl rfl rfl (Nat.le_of_ble_eq_true rfl) (by rw [eu2]; rfl) dX12_readAll_6 ?_
  refine a_aloadn (pc := 9) (j := 0) F dX12_readAll_9 rfl rfl ?_
  obtain ⟨t3, ht3, hf⟩ := bd_some hf
  refine a_callVv (pc := 10) (bs' := [bX12 y a0 t3]) (kb := 0) (j := 0) F [0] (c_X12_blanks l D y ek n a0 _ _ ht3) (cwV 0 F.1.2.2.2.2 (gV q6_165 q6_167 qs_27 q1_11 q6_168) rfl rfl rfl (by decide +kernel) ⟨Nat.le_of_ble_eq_true rfl, Nat.le_of_ble_eq_true rfl⟩) rfl rfl rfl rfl (by decide) rfl rfl rfl rfl rfl rfl (Nat.le_of_ble_eq_true rfl) ⟨Nat.zero_le _, Nat.zero_le _⟩ dX12_readAll_10 ?_
  refine a_aloadn (pc := 13) (j := 0) F dX12_readAll_13 rfl rfl ?_
  refine a_get (pc := 14) (kb := 0) (j := 0) (f := 10) F iW_X12 rfl rfl rfl (by decide) (tl q6_78) (fun _ h => h) rfl dX12_readAll_14 ?_
  refine a_aloadn (pc := 17) (j := 0) F dX12_readAll_17 rfl rfl ?_
  refine a_get (pc := 18) (kb := 0) (j := 0) (f := 11) F iW_X12 rfl rfl rfl (by decide) (tl q6_79) (fun _ h => h) rfl dX12_readAll_18 ?_
  refine a_icmp_ne (pc := 21) (tgt := 26) F dX12_readAll_21 (by decide) (fun h => ?_) (fun h => ?_)
  · replace hf := it_neg h hf
    refine a_iconst (pc := 26) F dX12_readAll_26 kc_0 ?_
    refine a_istoren (pc := 27) (lv' := [(0, .ref (a0 0)), (1, .int x1), (2, .int 0)]) F [1, 2, 0] dX12_readAll_27 rfl (by decide) rfl ?_
    refine a_loop 28 (fun (x4l : Int32 × St) => [(0, .ref (a0 0)), (1, .int x1), (2, .int x4l.1)]) (fun (x4l : Int32 × St) => [bX12 y a0 x4l.2]) (fun rc4 x4l ih4 hf => ?_) hf rfl rfl
    try dsimp only at hf ⊢
    refine a_aloadn (pc := 28) (j := 0) F dX12_readAll_28 rfl rfl ?_
    refine a_iloadn (pc := 29) (j := 1) F dX12_readAll_29 rfl rfl ?_
    refine a_iloadn (pc := 30) (j := 2) F dX12_readAll_30 rfl rfl ?_
    obtain ⟨t5, ht5, hf⟩ := bd_some hf
    refine a_callV (pc := 31) (bs' := [bX12 y a0 t5.2]) (kb := 0) (j := 0) F [0] (c_X12_readLine l D y ek n a0 _ _ _ _ ht5) (cwV 2 F.1.2.2.2.2 (gV q6_173 q6_175 qs_29 q1_11 q6_176) rfl rfl rfl (by decide +kernel) ⟨Nat.le_of_ble_eq_true rfl, Nat.le_of_ble_eq_true rfl⟩) rfl rfl rfl rfl (by decide) rfl rfl rfl rfl rfl rfl (Nat.le_of_ble_eq_true rfl) ⟨Nat.zero_le _, Nat.zero_le _⟩ dX12_readAll_31 ?_
    refine a_if_ne (pc := 34) (tgt := 39) F dX12_readAll_34 (by decide) (fun h => ?_) (fun h => ?_)
    · replace hf := it_neg h hf
      refine a_aloadn (pc := 39) (j := 0) F dX12_readAll_39 rfl rfl ?_
      obtain ⟨t6, ht6, hf⟩ := bd_some hf
      refine a_callVv (pc := 40) (bs' := [bX12 y a0 t6]) (kb := 0) (j := 0) F [0] (c_X12_blanks l D y ek n a0 _ _ ht6) (cwV 0 F.1.2.2.2.2 (gV q6_165 q6_167 qs_27 q1_11 q6_168) rfl rfl rfl (by decide +kernel) ⟨Nat.le_of_ble_eq_true rfl, Nat.le_of_ble_eq_true rfl⟩) rfl rfl rfl rfl (by decide) rfl rfl rfl rfl rfl rfl (Nat.le_of_ble_eq_true rfl) ⟨Nat.zero_le _, Nat.zero_le _⟩ dX12_readAll_40 ?_
      refine a_aloadn (pc := 43) (j := 0) F dX12_readAll_43 rfl rfl ?_
      refine a_get (pc := 44) (kb := 0) (j := 0) (f := 10) F iW_X12 rfl rfl rfl (by decide) (tl q6_78) (fun _ h => h) rfl dX12_readAll_44 ?_
      refine a_aloadn (pc := 47) (j := 0) F dX12_readAll_47 rfl rfl ?_
      refine a_get (pc := 48) (kb := 0) (j := 0) (f := 11) F iW_X12 rfl rfl rfl (by decide) (tl q6_79) (fun _ h => h) rfl dX12_readAll_48 ?_
      refine a_icmp_ne (pc := 51) (tgt := 58) F dX12_readAll_51 (by decide) (fun h => ?_) (fun h => ?_)
      · replace hf := it_neg h hf
        refine a_aloadn (pc := 58) (j := 0) F dX12_readAll_58 rfl rfl ?_
        refine a_bipush (pc := 59) F dX12_readAll_59 kb_59 ?_
        refine a_bipush (pc := 61) F dX12_readAll_61 kb_59 ?_
        obtain ⟨t7, ht7, hf⟩ := bd_some hf
        refine a_callV (pc := 63) (bs' := [bX12 y a0 t6]) (kb := 0) (j := 0) F [0] (c_X12_isAt l D y ek n a0 _ _ _ _ ht7) (cwV 2 F.1.2.2.2.2 (gV q6_169 q6_171 qs_28 q1_11 q6_172) rfl rfl rfl (by decide +kernel) ⟨Nat.le_of_ble_eq_true rfl, Nat.le_of_ble_eq_true rfl⟩) rfl rfl rfl rfl (by decide) rfl rfl rfl rfl rfl rfl (Nat.le_of_ble_eq_true rfl) ⟨Nat.zero_le _, Nat.zero_le _⟩ dX12_readAll_63 ?_
        refine a_if_ne (pc := 66) (tgt := 71) F dX12_readAll_66 (by decide) (fun h => ?_) (fun h => ?_)
        · replace hf := it_neg h hf
          refine a_aloadn (pc := 71) (j := 0) F dX12_readAll_71 rfl rfl ?_
          refine a_dup (pc := 72) F dX12_readAll_72 rfl ?_
          refine a_get (pc := 73) (kb := 0) (j := 0) (f := 10) F iW_X12 rfl rfl rfl (by decide) (tl q6_78) (fun _ h => h) rfl dX12_readAll_73 ?_
          refine a_iconst (pc := 76) F dX12_readAll_76 kc_1 ?_
          refine a_iadd (pc := 77) F dX12_readAll_77 ?_
          obtain ⟨u8, eu8, hf⟩ := nm_some hf
          refine a_put (pc := 78) (kb := 0) (j := 0) (f := 10) (ty := .int) (bs' := [bX12 y a0 u8]) F iW_X12 rfl rfl rfl (by decide) (tl q6_78) (fun _ h => h) tyX12 tyX12_ok nmX12 rfl rfl rfl rfl (Nat.le_of_ble_eq_true rfl) (by rw [eu8]; rfl) dX12_readAll_78 ?_
          refine a_iinc (pc := 81) (j := 2) (v := (x4l.1 + 1)) (lv' := [(0, .ref (a0 0)), (1, .int x1), (2, .int (x4l.1 + 1))]) F [1, 2, 0] dX12_readAll_81 rfl ki_1 (by decide) rfl ?_
          refine a_goto (pc := 84) (tgt := 28) F dX12_readAll_84 (by decide) ?_
          exact ih4 ((x4l.1 + 1), u8) hf
        · replace hf := it_pos h hf
          refine a_iconst (pc := 69) F dX12_readAll_69 kc_m1 ?_
          obtain rfl := Option.some.inj hf
          exact hret _ _ _ _ (Nat.zero_le _) (Nat.zero_le _) rfl dX12_readAll_70
      · replace hf := it_pos h hf
        refine a_iloadn (pc := 54) (j := 2) F dX12_readAll_54 rfl rfl ?_
        refine a_iconst (pc := 55) F dX12_readAll_55 kc_1 ?_
        refine a_iadd (pc := 56) F dX12_readAll_56 ?_
        obtain rfl := Option.some.inj hf
        exact hret _ _ _ _ (Nat.zero_le _) (Nat.zero_le _) rfl dX12_readAll_57
    · replace hf := it_pos h hf
      refine a_iconst (pc := 37) F dX12_readAll_37 kc_m1 ?_
      obtain rfl := Option.some.inj hf
      exact hret _ _ _ _ (Nat.zero_le _) (Nat.zero_le _) rfl dX12_readAll_38
  · replace hf := it_pos h hf
    refine a_iconst (pc := 24) F dX12_readAll_24 kc_0 ?_
    obtain rfl := Option.some.inj hf
    exact hret _ _ _ _ (Nat.zero_le _) (Nat.zero_le _) rfl dX12_readAll_25

abbrev wX12_hill : List Cond := Cond.code yX12_hill cX12_hill 3 (some .int) :: WALL
def m_X12_hill (n : Nat) (v0 : St) : Option (Int32 × St) :=
bd (lp (fun (rc16 : Int32 × St → Option (St)) (x16l : Int32 × St) =>
(if 1231 ≤ x16l.1 then
some x16l.2
else
(if ix x16l.1 2080 then (if ix x16l.1 1231 then nm (su x16l.2 3 (x16l.1).toNatClampNeg (x16l.2 1 (x16l.1).toNatClampNeg)) (fun u19 =>
rc16 ((x16l.1 + 1), u19)) else none) else none))) n (0, v0)) (fun (t1 : St) =>
bd (m_X12_readAll n t1 1) (fun t2 =>
bd ((if 0 ≤ t2.1 then
some (-1)
else
some (t2.2 12 0))) (fun (t3 : Int32) =>
nm (su t2.2 14 0 t3) (fun u4 =>
bd ((if 0 ≤ t2.1 then
some 0
else
some 1)) (fun (t5 : Int32) =>
bd (m_X12_throwsIf n u4 t5 1) (fun t6 =>
jn (fun (t7 : St) =>
lp (fun (rc8 : Int32 × St → Option (Int32 × St)) (x8l : Int32 × St) =>
(if 1231 ≤ x8l.1 then
some (0, x8l.2)
else
(if ix x8l.1 1231 then (if ix x8l.1 2080 then nm (su x8l.2 1 (x8l.1).toNatClampNeg (x8l.2 3 (x8l.1).toNatClampNeg)) (fun u11 =>
rc8 ((x8l.1 + 1), u11)) else none) else none))) n (0, t7)) (fun (K7 : St → Option (Int32 × St)) =>
(if t6.1 = 0 then
bd ((if (t6.2 1 2) = 12 then
some 1
else
some 0)) (fun (t12 : Int32) =>
bd (m_X12_throwsIf n t6.2 t12 2) (fun t13 =>
(if t13.1 = 0 then
nm (su t13.2 1 2 ((t13.2 1 2) + 1)) (fun u14 =>
nm (su u14 7 0 0) (fun u15 =>
some ((u15 1 2), u15)))
else
K7 t13.2)))
else
K7 t6.2))))))))
set_option maxHeartbeats 4000000 in
set_option maxRecDepth 100000 in
theorem c_X12_hill (l : Launch) (D : va_G) (y : Nat → ClassId) (ek : EK) (n : Nat) (a0 : Nat → Nat) (v0 : St) (res : Int32 × St) (hf : m_X12_hill n v0 = some res) : CI l yX12_hill wX12_hill { frames := 75, cells := 0, slots := 0, locals := 1579 } D y ek [.ref (a0 0)] [bX12 y a0 v0] (res.1) [bX12 y a0 res.2] 0 0 := by
  unfold m_X12_hill at hf
  refine ci_of (cc := cX12_hill) (maxL := 3) (by decide) rfl rfl (Nat.le_of_ble_eq_true rfl) ?_
  intro p e s m below meth c Q A F hret
  refine a_lv (lv' := [(0, .ref (a0 0))]) rfl ?_
  refine a_iconst (pc := 0) F dX12_hill_0 kc_0 ?_
  refine a_istoren (pc := 1) (lv' := [(0, .ref (a0 0)), (1, .int 0)]) F [1, 0] dX12_hill_1 rfl (by decide) rfl ?_
  refine a_join 27 (fun (t1 : St) => [(0, .ref (a0 0))]) (fun (t1 : St) => []) (fun (t1 : St) => [bX12 y a0 t1]) hf (fun t1 hf => ?_) (fun t1 hf J1 => ?_)
  · try dsimp only at hf ⊢
    refine a_aloadn (pc := 27) (j := 0) F dX12_hill_27 rfl rfl ?_
    refine a_iconst (pc := 28) F dX12_hill_28 kc_1 ?_
    obtain ⟨t2, ht2, hf⟩ := bd_some hf
    refine a_callV (pc := 29) (bs' := [bX12 y a0 t2.2]) (kb := 0) (j := 0) F [0] (c_X12_readAll l D y ek n a0 _ _ _ ht2) (cwV 1 F.1.2.2.2.2 (gV q6_157 q6_159 qs_25 q1_11 q6_160) rfl rfl rfl (by decide +kernel) ⟨Nat.le_of_ble_eq_true rfl, Nat.le_of_ble_eq_true rfl⟩) rfl rfl rfl rfl (by decide) rfl rfl rfl rfl rfl rfl (Nat.le_of_ble_eq_true rfl) ⟨Nat.zero_le _, Nat.zero_le _⟩ dX12_hill_29 ?_
    refine a_istoren (pc := 32) (lv' := [(0, .ref (a0 0)), (1, .int t2.1)]) F [1, 0] dX12_hill_32 rfl (by decide) rfl ?_
    refine a_aloadn (pc := 33) (j := 0) F dX12_hill_33 rfl rfl ?_
    refine a_iloadn (pc := 34) (j := 1) F dX12_hill_34 rfl rfl ?_
    refine a_join 46 (fun (t3 : Int32) => [(0, .ref (a0 0)), (1, .int t2.1)]) (fun (t3 : Int32) => [.int t3, .ref (a0 0)]) (fun (t3 : Int32) => [bX12 y a0 t2.2]) hf (fun t3 hf => ?_) (fun t3 hf J3 => ?_)
    · try dsimp only at hf ⊢
      obtain ⟨u4, eu4, hf⟩ := nm_some hf
      refine a_put (pc := 46) (kb := 0) (j := 0) (f := 14) (ty := .int) (bs' := [bX12 y a0 u4]) F iW_X12 rfl rfl rfl (by decide) (tl q6_82) (fun _ h => h) tyX12 tyX12_ok nmX12 rfl rfl rfl rfl (Nat.le_of_ble_eq_true rfl) (by rw [eu4]; rfl) dX12_hill_46 ?_
      refine a_aloadn (pc := 49) (j := 0) F dX12_hill_49 rfl rfl ?_
      refine a_iloadn (pc := 50) (j := 1) F dX12_hill_50 rfl rfl ?_
      refine a_join 59 (fun (t5 : Int32) => [(0, .ref (a0 0))]) (fun (t5 : Int32) => [.int t5, .ref (a0 0)]) (fun (t5 : Int32) => [bX12 y a0 u4]) hf (fun t5 hf => ?_) (fun t5 hf J5 => ?_)
      · try dsimp only at hf ⊢
        refine a_iconst (pc := 59) F dX12_hill_59 kc_1 ?_
        obtain ⟨t6, ht6, hf⟩ := bd_some hf
        refine a_callV (pc := 60) (bs' := [bX12 y a0 t6.2]) (kb := 0) (j := 0) F [0] (c_X12_throwsIf l D y ek n a0 _ _ _ _ ht6) (cwV 2 F.1.2.2.2.2 (gV q7_61 q7_63 qs_52 q1_11 q7_64) rfl rfl rfl (by decide +kernel) ⟨Nat.le_of_ble_eq_true rfl, Nat.le_of_ble_eq_true rfl⟩) rfl rfl rfl rfl (by decide) rfl rfl rfl rfl rfl rfl (Nat.le_of_ble_eq_true rfl) ⟨Nat.zero_le _, Nat.zero_le _⟩ dX12_hill_60 ?_
        refine a_jn 90 (fun (t7 : St) => [(0, .ref (a0 0))]) (fun (t7 : St) => []) (fun (t7 : St) => [bX12 y a0 t7]) hf (fun t7 hf => ?_) (fun K7 hK7 hf => ?_)
        · try dsimp only at hf ⊢
          refine a_iconst (pc := 90) F dX12_hill_90 kc_0 ?_
          refine a_istoren (pc := 91) (lv' := [(0, .ref (a0 0)), (2, .int 0)]) F [1, 0] dX12_hill_91 rfl (by decide) rfl ?_
          refine a_loop 92 (fun (x8l : Int32 × St) => [(0, .ref (a0 0)), (2, .int x8l.1)]) (fun (x8l : Int32 × St) => [bX12 y a0 x8l.2]) (fun rc8 x8l ih8 hf => ?_) hf rfl rfl
          try dsimp only at hf ⊢
          refine a_iloadn (pc := 92) (j := 1) F dX12_hill_92 rfl rfl ?_
          refine a_sipush (pc := 93) F dX12_hill_93 ks_1231 ?_
          refine a_icmp_ge (pc := 96) (tgt := 117) F dX12_hill_96 (by decide) (fun h => ?_) (fun h => ?_)
          · replace hf := it_pos h hf
            refine a_iconst (pc := 117) F dX12_hill_117 kc_0 ?_
            obtain rfl := Option.some.inj hf
            exact hret _ _ _ _ (Nat.zero_le _) (Nat.zero_le _) rfl dX12_hill_118
          · replace hf := it_neg h hf
            refine a_aloadn (pc := 99) (j := 0) F dX12_hill_99 rfl rfl ?_
            refine a_get (pc := 100) (kb := 0) (j := 0) (f := 1) F iW_X12 rfl rfl rfl (by decide) (tl q6_69) (fun _ h => h) rfl dX12_hill_100 ?_
            refine a_iloadn (pc := 103) (j := 1) F dX12_hill_103 rfl rfl ?_
            refine a_aloadn (pc := 104) (j := 0) F dX12_hill_104 rfl rfl ?_
            refine a_get (pc := 105) (kb := 0) (j := 0) (f := 3) F iW_X12 rfl rfl rfl (by decide) (tl q6_71) (fun _ h => h) rfl dX12_hill_105 ?_
            refine a_iloadn (pc := 108) (j := 1) F dX12_hill_108 rfl rfl ?_
            obtain ⟨h9, hf⟩ := gd_some hf
            refine a_iald (pc := 109) (kb := 0) (j := 3) F rfl rfl h9 dX12_hill_109 ?_
            obtain ⟨h10, hf⟩ := gd_some hf
            obtain ⟨u11, eu11, hf⟩ := nm_some hf
            refine a_iast (pc := 110) (kb := 0) (j := 1) (bs' := [bX12 y a0 u11]) F rfl rfl h10 (by rw [eu11]; rfl) dX12_hill_110 ?_
            refine a_iinc (pc := 111) (j := 1) (v := (x8l.1 + 1)) (lv' := [(0, .ref (a0 0)), (2, .int (x8l.1 + 1))]) F [1, 0] dX12_hill_111 rfl ki_1 (by decide) rfl ?_
            refine a_goto (pc := 114) (tgt := 92) F dX12_hill_114 (by decide) ?_
            exact ih8 ((x8l.1 + 1), u11) hf
        · try dsimp only at hf
          refine a_if_ne (pc := 63) (tgt := 90) F dX12_hill_63 (by decide) (fun h => ?_) (fun h => ?_)
          · replace hf := it_neg h hf
            exact hK7 t6.2 hf
          · replace hf := it_pos h hf
            refine a_aloadn (pc := 66) (j := 0) F dX12_hill_66 rfl rfl ?_
            refine a_aloadn (pc := 67) (j := 0) F dX12_hill_67 rfl rfl ?_
            refine a_get (pc := 68) (kb := 0) (j := 0) (f := 1) F iW_X12 rfl rfl rfl (by decide) (tl q6_69) (fun _ h => h) rfl dX12_hill_68 ?_
            refine a_iconst (pc := 71) F dX12_hill_71 kc_2 ?_
            refine a_ialdc (pc := 72) (kb := 0) (j := 1) (k := 2) F rfl rfl (by decide) (by decide) dX12_hill_72 ?_
            refine a_bipush (pc := 73) F dX12_hill_73 kb_12 ?_
            refine a_join 83 (fun (t12 : Int32) => [(0, .ref (a0 0))]) (fun (t12 : Int32) => [.int t12, .ref (a0 0)]) (fun (t12 : Int32) => [bX12 y a0 t6.2]) hf (fun t12 hf => ?_) (fun t12 hf J12 => ?_)
            · try dsimp only at hf ⊢
              refine a_iconst (pc := 83) F dX12_hill_83 kc_2 ?_
              obtain ⟨t13, ht13, hf⟩ := bd_some hf
              refine a_callV (pc := 84) (bs' := [bX12 y a0 t13.2]) (kb := 0) (j := 0) F [0] (c_X12_throwsIf l D y ek n a0 _ _ _ _ ht13) (cwV 2 F.1.2.2.2.2 (gV q7_61 q7_63 qs_52 q1_11 q7_64) rfl rfl rfl (by decide +kernel) ⟨Nat.le_of_ble_eq_true rfl, Nat.le_of_ble_eq_true rfl⟩) rfl rfl rfl rfl (by decide) rfl rfl rfl rfl rfl rfl (Nat.le_of_ble_eq_true rfl) ⟨Nat.zero_le _, Nat.zero_le _⟩ dX12_hill_84 ?_
              refine a_if_eq (pc := 87) (tgt := 119) F dX12_hill_87 (by decide) (fun h => ?_) (fun h => ?_)
              · replace hf := it_pos h hf
                refine a_aloadn (pc := 119) (j := 0) F dX12_hill_119 rfl rfl ?_
                refine a_get (pc := 120) (kb := 0) (j := 0) (f := 1) F iW_X12 rfl rfl rfl (by decide) (tl q6_69) (fun _ h => h) rfl dX12_hill_120 ?_
                refine a_iconst (pc := 123) F dX12_hill_123 kc_2 ?_
                refine a_dup2 (pc := 124) F dX12_hill_124 rfl rfl ?_
                refine a_ialdc (pc := 125) (kb := 0) (j := 1) (k := 2) F rfl rfl (by decide) (by decide) dX12_hill_125 ?_
                refine a_iconst (pc := 126) F dX12_hill_126 kc_1 ?_
                refine a_iadd (pc := 127) F dX12_hill_127 ?_
                obtain ⟨u14, eu14, hf⟩ := nm_some hf
                refine a_iastc (pc := 128) (kb := 0) (j := 1) (k := 2) (bs' := [bX12 y a0 u14]) F rfl rfl (by decide) (by decide) (by rw [eu14]; rfl) dX12_hill_128 ?_
                refine a_aloadn (pc := 129) (j := 0) F dX12_hill_129 rfl rfl ?_
                refine a_iconst (pc := 130) F dX12_hill_130 kc_0 ?_
                obtain ⟨u15, eu15, hf⟩ := nm_some hf
                refine a_put (pc := 131) (kb := 0) (j := 0) (f := 7) (ty := .int) (bs' := [bX12 y a0 u15]) F iW_X12 rfl rfl rfl (by decide) (tl q6_75) (fun _ h => h) tyX12 tyX12_ok nmX12 rfl rfl rfl rfl (Nat.le_of_ble_eq_true rfl) (by rw [eu15]; rfl) dX12_hill_131 ?_
                refine a_aloadn (pc := 134) (j := 0) F dX12_hill_134 rfl rfl ?_
                refine a_get (pc := 135) (kb := 0) (j := 0) (f := 1) F iW_X12 rfl rfl rfl (by decide) (tl q6_69) (fun _ h => h) rfl dX12_hill_135 ?_
                refine a_iconst (pc := 138) F dX12_hill_138 kc_2 ?_
                refine a_ialdc (pc := 139) (kb := 0) (j := 1) (k := 2) F rfl rfl (by decide) (by decide) dX12_hill_139 ?_
                obtain rfl := Option.some.inj hf
                exact hret _ _ _ _ (Nat.zero_le _) (Nat.zero_le _) rfl dX12_hill_140
              · replace hf := it_neg h hf
                exact hK7 t13.2 hf
            · refine a_icmp_ne (pc := 75) (tgt := 82) F dX12_hill_75 (by decide) (fun h => ?_) (fun h => ?_)
              · replace hf := it_neg h hf
                refine a_iconst (pc := 82) F dX12_hill_82 kc_0 ?_
                obtain rfl := Option.some.inj hf
                exact J12
              · replace hf := it_pos h hf
                refine a_iconst (pc := 78) F dX12_hill_78 kc_1 ?_
                refine a_goto (pc := 79) (tgt := 83) F dX12_hill_79 (by decide) ?_
                obtain rfl := Option.some.inj hf
                exact J12
      · refine a_if_ge (pc := 51) (tgt := 58) F dX12_hill_51 (by decide) (fun h => ?_) (fun h => ?_)
        · replace hf := it_pos h hf
          refine a_iconst (pc := 58) F dX12_hill_58 kc_0 ?_
          refine a_sub [0] rfl ?_
          obtain rfl := Option.some.inj hf
          exact J5
        · replace hf := it_neg h hf
          refine a_iconst (pc := 54) F dX12_hill_54 kc_1 ?_
          refine a_goto (pc := 55) (tgt := 59) F dX12_hill_55 (by decide) ?_
          refine a_sub [0] rfl ?_
          obtain rfl := Option.some.inj hf
          exact J5
    · refine a_if_ge (pc := 35) (tgt := 45) F dX12_hill_35 (by decide) (fun h => ?_) (fun h => ?_)
      · replace hf := it_pos h hf
        refine a_iconst (pc := 45) F dX12_hill_45 kc_m1 ?_
        obtain rfl := Option.some.inj hf
        exact J3
      · replace hf := it_neg h hf
        refine a_aloadn (pc := 38) (j := 0) F dX12_hill_38 rfl rfl ?_
        refine a_get (pc := 39) (kb := 0) (j := 0) (f := 12) F iW_X12 rfl rfl rfl (by decide) (tl q6_80) (fun _ h => h) rfl dX12_hill_39 ?_
        refine a_goto (pc := 42) (tgt := 46) F dX12_hill_42 (by decide) ?_
        obtain rfl := Option.some.inj hf
        exact J3
  · refine a_loop 2 (fun (x16l : Int32 × St) => [(0, .ref (a0 0)), (1, .int x16l.1)]) (fun (x16l : Int32 × St) => [bX12 y a0 x16l.2]) (fun rc16 x16l ih16 hf => ?_) hf rfl rfl
    try dsimp only at hf ⊢
    refine a_iloadn (pc := 2) (j := 1) F dX12_hill_2 rfl rfl ?_
    refine a_sipush (pc := 3) F dX12_hill_3 ks_1231 ?_
    refine a_icmp_ge (pc := 6) (tgt := 27) F dX12_hill_6 (by decide) (fun h => ?_) (fun h => ?_)
    · replace hf := it_pos h hf
      refine a_sub [0] rfl ?_
      obtain rfl := Option.some.inj hf
      exact J1
    · replace hf := it_neg h hf
      refine a_aloadn (pc := 9) (j := 0) F dX12_hill_9 rfl rfl ?_
      refine a_get (pc := 10) (kb := 0) (j := 0) (f := 3) F iW_X12 rfl rfl rfl (by decide) (tl q6_71) (fun _ h => h) rfl dX12_hill_10 ?_
      refine a_iloadn (pc := 13) (j := 1) F dX12_hill_13 rfl rfl ?_
      refine a_aloadn (pc := 14) (j := 0) F dX12_hill_14 rfl rfl ?_
      refine a_get (pc := 15) (kb := 0) (j := 0) (f := 1) F iW_X12 rfl rfl rfl (by decide) (tl q6_69) (fun _ h => h) rfl dX12_hill_15 ?_
      refine a_iloadn (pc := 18) (j := 1) F dX12_hill_18 rfl rfl ?_
      obtain ⟨h17, hf⟩ := gd_some hf
      refine a_iald (pc := 19) (kb := 0) (j := 1) F rfl rfl h17 dX12_hill_19 ?_
      obtain ⟨h18, hf⟩ := gd_some hf
      obtain ⟨u19, eu19, hf⟩ := nm_some hf
      refine a_iast (pc := 20) (kb := 0) (j := 3) (bs' := [bX12 y a0 u19]) F rfl rfl h18 (by rw [eu19]; rfl) dX12_hill_20 ?_
      refine a_iinc (pc := 21) (j := 1) (v := (x16l.1 + 1)) (lv' := [(0, .ref (a0 0)), (1, .int (x16l.1 + 1))]) F [1, 0] dX12_hill_21 rfl ki_1 (by decide) rfl ?_
      refine a_goto (pc := 24) (tgt := 2) F dX12_hill_24 (by decide) ?_
      exact ih16 ((x16l.1 + 1), u19) hf

abbrev wX12_law : List Cond := Cond.code yX12_law cX12_law 3 (some .int) :: WALL
def m_X12_law (n : Nat) (v0 : St) : Option (Int32 × St) :=
bd (m_X12_readAll n v0 0) (fun t1 =>
bd ((if 0 ≤ t1.1 then
some (-1)
else
some (t1.2 12 0))) (fun (t2 : Int32) =>
nm (su t1.2 14 0 t2) (fun u3 =>
bd ((if 0 ≤ t1.1 then
some 0
else
some 1)) (fun (t4 : Int32) =>
bd (m_X12_throwsIf n u3 t4 1) (fun t5 =>
(if t5.1 = 0 then
nm (su t5.2 1 1231 t1.1) (fun u6 =>
bd (lp (fun (rc10 : Int32 × St → Option (St)) (x10l : Int32 × St) =>
(if 849 ≤ x10l.1 then
some x10l.2
else
(if ix (1231 + x10l.1) 2080 then (if ix (382 + x10l.1) 2080 then nm (su x10l.2 1 ((382 + x10l.1)).toNatClampNeg (x10l.2 1 ((1231 + x10l.1)).toNatClampNeg)) (fun u13 =>
rc10 ((x10l.1 + 1), u13)) else none) else none))) n (0, u6)) (fun (t7 : St) =>
nm (su t7 1 3 1) (fun u8 =>
nm (su u8 7 0 0) (fun u9 =>
some (t1.1, u9)))))
else
some (0, t5.2)))))))
set_option maxHeartbeats 4000000 in
set_option maxRecDepth 100000 in
theorem c_X12_law (l : Launch) (D : va_G) (y : Nat → ClassId) (ek : EK) (n : Nat) (a0 : Nat → Nat) (v0 : St) (res : Int32 × St) (hf : m_X12_law n v0 = some res) : CI l yX12_law wX12_law { frames := 75, cells := 0, slots := 0, locals := 1579 } D y ek [.ref (a0 0)] [bX12 y a0 v0] (res.1) [bX12 y a0 res.2] 0 0 := by
  unfold m_X12_law at hf
  refine ci_of (cc := cX12_law) (maxL := 3) (by decide) rfl rfl (Nat.le_of_ble_eq_true rfl) ?_
  intro p e s m below meth c Q A F hret
  refine a_lv (lv' := [(0, .ref (a0 0))]) rfl ?_
  refine a_aloadn (pc := 0) (j := 0) F dX12_law_0 rfl rfl ?_
  refine a_iconst (pc := 1) F dX12_law_1 kc_0 ?_
  obtain ⟨t1, ht1, hf⟩ := bd_some hf
  refine a_callV (pc := 2) (bs' := [bX12 y a0 t1.2]) (kb := 0) (j := 0) F [0] (c_X12_readAll l D y ek n a0 _ _ _ ht1) (cwV 1 F.1.2.2.2.2 (gV q6_157 q6_159 qs_25 q1_11 q6_160) rfl rfl rfl (by decide +kernel) ⟨Nat.le_of_ble_eq_true rfl, Nat.le_of_ble_eq_true rfl⟩) rfl rfl rfl rfl (by decide) rfl rfl rfl rfl rfl rfl (Nat.le_of_ble_eq_true rfl) ⟨Nat.zero_le _, Nat.zero_le _⟩ dX12_law_2 ?_
  refine a_istoren (pc := 5) (lv' := [(0, .ref (a0 0)), (1, .int t1.1)]) F [1, 0] dX12_law_5 rfl (by decide) rfl ?_
  refine a_aloadn (pc := 6) (j := 0) F dX12_law_6 rfl rfl ?_
  refine a_iloadn (pc := 7) (j := 1) F dX12_law_7 rfl rfl ?_
  refine a_join 19 (fun (t2 : Int32) => [(0, .ref (a0 0)), (1, .int t1.1)]) (fun (t2 : Int32) => [.int t2, .ref (a0 0)]) (fun (t2 : Int32) => [bX12 y a0 t1.2]) hf (fun t2 hf => ?_) (fun t2 hf J2 => ?_)
  · try dsimp only at hf ⊢
    obtain ⟨u3, eu3, hf⟩ := nm_some hf
    refine a_put (pc := 19) (kb := 0) (j := 0) (f := 14) (ty := .int) (bs' := [bX12 y a0 u3]) F iW_X12 rfl rfl rfl (by decide) (tl q6_82) (fun _ h => h) tyX12 tyX12_ok nmX12 rfl rfl rfl rfl (Nat.le_of_ble_eq_true rfl) (by rw [eu3]; rfl) dX12_law_19 ?_
    refine a_aloadn (pc := 22) (j := 0) F dX12_law_22 rfl rfl ?_
    refine a_iloadn (pc := 23) (j := 1) F dX12_law_23 rfl rfl ?_
    refine a_join 32 (fun (t4 : Int32) => [(0, .ref (a0 0)), (1, .int t1.1)]) (fun (t4 : Int32) => [.int t4, .ref (a0 0)]) (fun (t4 : Int32) => [bX12 y a0 u3]) hf (fun t4 hf => ?_) (fun t4 hf J4 => ?_)
    · try dsimp only at hf ⊢
      refine a_iconst (pc := 32) F dX12_law_32 kc_1 ?_
      obtain ⟨t5, ht5, hf⟩ := bd_some hf
      refine a_callV (pc := 33) (bs' := [bX12 y a0 t5.2]) (kb := 0) (j := 0) F [0] (c_X12_throwsIf l D y ek n a0 _ _ _ _ ht5) (cwV 2 F.1.2.2.2.2 (gV q7_61 q7_63 qs_52 q1_11 q7_64) rfl rfl rfl (by decide +kernel) ⟨Nat.le_of_ble_eq_true rfl, Nat.le_of_ble_eq_true rfl⟩) rfl rfl rfl rfl (by decide) rfl rfl rfl rfl rfl rfl (Nat.le_of_ble_eq_true rfl) ⟨Nat.zero_le _, Nat.zero_le _⟩ dX12_law_33 ?_
      refine a_if_eq (pc := 36) (tgt := 41) F dX12_law_36 (by decide) (fun h => ?_) (fun h => ?_)
      · replace hf := it_pos h hf
        refine a_aloadn (pc := 41) (j := 0) F dX12_law_41 rfl rfl ?_
        refine a_get (pc := 42) (kb := 0) (j := 0) (f := 1) F iW_X12 rfl rfl rfl (by decide) (tl q6_69) (fun _ h => h) rfl dX12_law_42 ?_
        refine a_sipush (pc := 45) F dX12_law_45 ks_1231 ?_
        refine a_iloadn (pc := 48) (j := 1) F dX12_law_48 rfl rfl ?_
        obtain ⟨u6, eu6, hf⟩ := nm_some hf
        refine a_iastc (pc := 49) (kb := 0) (j := 1) (k := 1231) (bs' := [bX12 y a0 u6]) F rfl rfl (by decide) (by decide) (by rw [eu6]; rfl) dX12_law_49 ?_
        refine a_iconst (pc := 50) F dX12_law_50 kc_0 ?_
        refine a_istoren (pc := 51) (lv' := [(0, .ref (a0 0)), (1, .int t1.1), (2, .int 0)]) F [1, 2, 0] dX12_law_51 rfl (by decide) rfl ?_
        refine a_join 85 (fun (t7 : St) => [(0, .ref (a0 0)), (1, .int t1.1)]) (fun (t7 : St) => []) (fun (t7 : St) => [bX12 y a0 t7]) hf (fun t7 hf => ?_) (fun t7 hf J7 => ?_)
        · try dsimp only at hf ⊢
          refine a_aloadn (pc := 85) (j := 0) F dX12_law_85 rfl rfl ?_
          refine a_get (pc := 86) (kb := 0) (j := 0) (f := 1) F iW_X12 rfl rfl rfl (by decide) (tl q6_69) (fun _ h => h) rfl dX12_law_86 ?_
          refine a_iconst (pc := 89) F dX12_law_89 kc_3 ?_
          refine a_iconst (pc := 90) F dX12_law_90 kc_1 ?_
          obtain ⟨u8, eu8, hf⟩ := nm_some hf
          refine a_iastc (pc := 91) (kb := 0) (j := 1) (k := 3) (bs' := [bX12 y a0 u8]) F rfl rfl (by decide) (by decide) (by rw [eu8]; rfl) dX12_law_91 ?_
          refine a_aloadn (pc := 92) (j := 0) F dX12_law_92 rfl rfl ?_
          refine a_iconst (pc := 93) F dX12_law_93 kc_0 ?_
          obtain ⟨u9, eu9, hf⟩ := nm_some hf
          refine a_put (pc := 94) (kb := 0) (j := 0) (f := 7) (ty := .int) (bs' := [bX12 y a0 u9]) F iW_X12 rfl rfl rfl (by decide) (tl q6_75) (fun _ h => h) tyX12 tyX12_ok nmX12 rfl rfl rfl rfl (Nat.le_of_ble_eq_true rfl) (by rw [eu9]; rfl) dX12_law_94 ?_
          refine a_iloadn (pc := 97) (j := 1) F dX12_law_97 rfl rfl ?_
          obtain rfl := Option.some.inj hf
          exact hret _ _ _ _ (Nat.zero_le _) (Nat.zero_le _) rfl dX12_law_98
        · refine a_loop 52 (fun (x10l : Int32 × St) => [(0, .ref (a0 0)), (1, .int t1.1), (2, .int x10l.1)]) (fun (x10l : Int32 × St) => [bX12 y a0 x10l.2]) (fun rc10 x10l ih10 hf => ?_) hf rfl rfl
          try dsimp only at hf ⊢
          refine a_iloadn (pc := 52) (j := 2) F dX12_law_52 rfl rfl ?_
          refine a_sipush (pc := 53) F dX12_law_53 ks_849 ?_
          refine a_icmp_ge (pc := 56) (tgt := 85) F dX12_law_56 (by decide) (fun h => ?_) (fun h => ?_)
          · replace hf := it_pos h hf
            refine a_sub [0, 1] rfl ?_
            obtain rfl := Option.some.inj hf
            exact J7
          · replace hf := it_neg h hf
            refine a_aloadn (pc := 59) (j := 0) F dX12_law_59 rfl rfl ?_
            refine a_get (pc := 60) (kb := 0) (j := 0) (f := 1) F iW_X12 rfl rfl rfl (by decide) (tl q6_69) (fun _ h => h) rfl dX12_law_60 ?_
            refine a_sipush (pc := 63) F dX12_law_63 ks_382 ?_
            refine a_iloadn (pc := 66) (j := 2) F dX12_law_66 rfl rfl ?_
            refine a_iadd (pc := 67) F dX12_law_67 ?_
            refine a_aloadn (pc := 68) (j := 0) F dX12_law_68 rfl rfl ?_
            refine a_get (pc := 69) (kb := 0) (j := 0) (f := 1) F iW_X12 rfl rfl rfl (by decide) (tl q6_69) (fun _ h => h) rfl dX12_law_69 ?_
            refine a_sipush (pc := 72) F dX12_law_72 ks_1231 ?_
            refine a_iloadn (pc := 75) (j := 2) F dX12_law_75 rfl rfl ?_
            refine a_iadd (pc := 76) F dX12_law_76 ?_
            obtain ⟨h11, hf⟩ := gd_some hf
            refine a_iald (pc := 77) (kb := 0) (j := 1) F rfl rfl h11 dX12_law_77 ?_
            obtain ⟨h12, hf⟩ := gd_some hf
            obtain ⟨u13, eu13, hf⟩ := nm_some hf
            refine a_iast (pc := 78) (kb := 0) (j := 1) (bs' := [bX12 y a0 u13]) F rfl rfl h12 (by rw [eu13]; rfl) dX12_law_78 ?_
            refine a_iinc (pc := 79) (j := 2) (v := (x10l.1 + 1)) (lv' := [(0, .ref (a0 0)), (1, .int t1.1), (2, .int (x10l.1 + 1))]) F [1, 2, 0] dX12_law_79 rfl ki_1 (by decide) rfl ?_
            refine a_goto (pc := 82) (tgt := 52) F dX12_law_82 (by decide) ?_
            exact ih10 ((x10l.1 + 1), u13) hf
      · replace hf := it_neg h hf
        refine a_iconst (pc := 39) F dX12_law_39 kc_0 ?_
        obtain rfl := Option.some.inj hf
        exact hret _ _ _ _ (Nat.zero_le _) (Nat.zero_le _) rfl dX12_law_40
    · refine a_if_ge (pc := 24) (tgt := 31) F dX12_law_24 (by decide) (fun h => ?_) (fun h => ?_)
      · replace hf := it_pos h hf
        refine a_iconst (pc := 31) F dX12_law_31 kc_0 ?_
        obtain rfl := Option.some.inj hf
        exact J4
      · replace hf := it_neg h hf
        refine a_iconst (pc := 27) F dX12_law_27 kc_1 ?_
        refine a_goto (pc := 28) (tgt := 32) F dX12_law_28 (by decide) ?_
        obtain rfl := Option.some.inj hf
        exact J4
  · refine a_if_ge (pc := 8) (tgt := 18) F dX12_law_8 (by decide) (fun h => ?_) (fun h => ?_)
    · replace hf := it_pos h hf
      refine a_iconst (pc := 18) F dX12_law_18 kc_m1 ?_
      obtain rfl := Option.some.inj hf
      exact J2
    · replace hf := it_neg h hf
      refine a_aloadn (pc := 11) (j := 0) F dX12_law_11 rfl rfl ?_
      refine a_get (pc := 12) (kb := 0) (j := 0) (f := 12) F iW_X12 rfl rfl rfl (by decide) (tl q6_80) (fun _ h => h) rfl dX12_law_12 ?_
      refine a_goto (pc := 15) (tgt := 19) F dX12_law_15 (by decide) ?_
      obtain rfl := Option.some.inj hf
      exact J2
