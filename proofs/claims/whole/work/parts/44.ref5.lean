abbrev wX12_moreBehind : List Cond := Cond.code yX12_moreBehind cX12_moreBehind 3 (some .int) :: WALL
def m_X12_moreBehind (n : Nat) (v0 : St) (x1 : Int32) (x2 : Int32) : Option (Int32) :=
bd (m_X12_loadOf n v0 ((2 * x1) + 1)) (fun t1 =>
bd (m_X12_loadOf n v0 (2 * x1)) (fun t2 =>
bd (m_X12_thingsIn n v0 (2 * x1)) (fun t3 =>
bd (m_X12_weightOf n v0 (x2 &&& t3)) (fun t4 =>
bd (m_X12_thingsIn n v0 ((2 * x1) + 1)) (fun t5 =>
bd (m_X12_weightOf n v0 (x2 &&& t5)) (fun t6 =>
some (((t1 - t2) + (2 * t4)) - (2 * t6))))))))
set_option maxHeartbeats 4000000 in
set_option maxRecDepth 100000 in
theorem c_X12_moreBehind (l : Launch) (D : va_G) (y : Nat → ClassId) (ek : EK) (n : Nat) (a0 : Nat → Nat) (v0 : St) (x1 : Int32) (x2 : Int32) (res : Int32) (hf : m_X12_moreBehind n v0 x1 x2 = some res) : CI l yX12_moreBehind wX12_moreBehind { frames := 4, cells := 0, slots := 0, locals := 87 } D y ek [.ref (a0 0), .int x1, .int x2] [bX12 y a0 v0] (res) [bX12 y a0 v0] 0 0 := by
  unfold m_X12_moreBehind at hf
  refine ci_of (cc := cX12_moreBehind) (maxL := 3) (by decide) rfl rfl (Nat.le_of_ble_eq_true rfl) ?_
  intro p e s m below meth c Q A F hret
  refine a_lv (lv' := [(0, .ref (a0 0)), (1, .int x1), (2, .int x2)]) rfl ?_
  refine a_aloadn (pc := 0) (j := 0) F dX12_moreBehind_0 rfl rfl ?_
  refine a_iconst (pc := 1) F dX12_moreBehind_1 kc_2 ?_
  refine a_iloadn (pc := 2) (j := 1) F dX12_moreBehind_2 rfl rfl ?_
  refine a_imul (pc := 3) F dX12_moreBehind_3 ?_
  refine a_iconst (pc := 4) F dX12_moreBehind_4 kc_1 ?_
  refine a_iadd (pc := 5) F dX12_moreBehind_5 ?_
  obtain ⟨t1, ht1, hf⟩ := bd_some hf
  refine a_callV (pc := 6) (bs' := [bX12 y a0 v0]) (kb := 0) (j := 0) F [0] (c_X12_loadOf l D y ek n a0 _ _ _ ht1) (cwV 1 F.1.2.2.2.2 (gV q7_92 q7_94 qs_57 q1_11 q7_95) rfl rfl rfl (by decide +kernel) ⟨Nat.le_of_ble_eq_true rfl, Nat.le_of_ble_eq_true rfl⟩) rfl rfl rfl rfl (by decide) rfl rfl rfl rfl rfl rfl (Nat.le_of_ble_eq_true rfl) ⟨Nat.zero_le _, Nat.zero_le _⟩ dX12_moreBehind_6 ?_
  refine a_aloadn (pc := 9) (j := 0) F dX12_moreBehind_9 rfl rfl ?_
  refine a_iconst (pc := 10) F dX12_moreBehind_10 kc_2 ?_
  refine a_iloadn (pc := 11) (j := 1) F dX12_moreBehind_11 rfl rfl ?_
  refine a_imul (pc := 12) F dX12_moreBehind_12 ?_
  obtain ⟨t2, ht2, hf⟩ := bd_some hf
  refine a_callV (pc := 13) (bs' := [bX12 y a0 v0]) (kb := 0) (j := 0) F [0] (c_X12_loadOf l D y ek n a0 _ _ _ ht2) (cwV 1 F.1.2.2.2.2 (gV q7_92 q7_94 qs_57 q1_11 q7_95) rfl rfl rfl (by decide +kernel) ⟨Nat.le_of_ble_eq_true rfl, Nat.le_of_ble_eq_true rfl⟩) rfl rfl rfl rfl (by decide) rfl rfl rfl rfl rfl rfl (Nat.le_of_ble_eq_true rfl) ⟨Nat.zero_le _, Nat.zero_le _⟩ dX12_moreBehind_13 ?_
  refine a_isub (pc := 16) F dX12_moreBehind_16 ?_
  refine a_iconst (pc := 17) F dX12_moreBehind_17 kc_2 ?_
  refine a_aloadn (pc := 18) (j := 0) F dX12_moreBehind_18 rfl rfl ?_
  refine a_iloadn (pc := 19) (j := 2) F dX12_moreBehind_19 rfl rfl ?_
  refine a_aloadn (pc := 20) (j := 0) F dX12_moreBehind_20 rfl rfl ?_
  refine a_iconst (pc := 21) F dX12_moreBehind_21 kc_2 ?_
  refine a_iloadn (pc := 22) (j := 1) F dX12_moreBehind_22 rfl rfl ?_
  refine a_imul (pc := 23) F dX12_moreBehind_23 ?_
  obtain ⟨t3, ht3, hf⟩ := bd_some hf
  refine a_callV (pc := 24) (bs' := [bX12 y a0 v0]) (kb := 0) (j := 0) F [0] (c_X12_thingsIn l D y ek n a0 _ _ _ ht3) (cwV 1 F.1.2.2.2.2 (gV q7_96 q7_98 qs_58 q1_11 q7_99) rfl rfl rfl (by decide +kernel) ⟨Nat.le_of_ble_eq_true rfl, Nat.le_of_ble_eq_true rfl⟩) rfl rfl rfl rfl (by decide) rfl rfl rfl rfl rfl rfl (Nat.le_of_ble_eq_true rfl) ⟨Nat.zero_le _, Nat.zero_le _⟩ dX12_moreBehind_24 ?_
  refine a_iand (pc := 27) F dX12_moreBehind_27 ?_
  obtain ⟨t4, ht4, hf⟩ := bd_some hf
  refine a_callV (pc := 28) (bs' := [bX12 y a0 v0]) (kb := 0) (j := 0) F [0] (c_X12_weightOf l D y ek n a0 _ _ _ ht4) (cwV 1 F.1.2.2.2.2 (gV q7_104 q7_106 qs_60 q1_11 q7_107) rfl rfl rfl (by decide +kernel) ⟨Nat.le_of_ble_eq_true rfl, Nat.le_of_ble_eq_true rfl⟩) rfl rfl rfl rfl (by decide) rfl rfl rfl rfl rfl rfl (Nat.le_of_ble_eq_true rfl) ⟨Nat.zero_le _, Nat.zero_le _⟩ dX12_moreBehind_28 ?_
  refine a_imul (pc := 31) F dX12_moreBehind_31 ?_
  refine a_iadd (pc := 32) F dX12_moreBehind_32 ?_
  refine a_iconst (pc := 33) F dX12_moreBehind_33 kc_2 ?_
  refine a_aloadn (pc := 34) (j := 0) F dX12_moreBehind_34 rfl rfl ?_
  refine a_iloadn (pc := 35) (j := 2) F dX12_moreBehind_35 rfl rfl ?_
  refine a_aloadn (pc := 36) (j := 0) F dX12_moreBehind_36 rfl rfl ?_
  refine a_iconst (pc := 37) F dX12_moreBehind_37 kc_2 ?_
  refine a_iloadn (pc := 38) (j := 1) F dX12_moreBehind_38 rfl rfl ?_
  refine a_imul (pc := 39) F dX12_moreBehind_39 ?_
  refine a_iconst (pc := 40) F dX12_moreBehind_40 kc_1 ?_
  refine a_iadd (pc := 41) F dX12_moreBehind_41 ?_
  obtain ⟨t5, ht5, hf⟩ := bd_some hf
  refine a_callV (pc := 42) (bs' := [bX12 y a0 v0]) (kb := 0) (j := 0) F [0] (c_X12_thingsIn l D y ek n a0 _ _ _ ht5) (cwV 1 F.1.2.2.2.2 (gV q7_96 q7_98 qs_58 q1_11 q7_99) rfl rfl rfl (by decide +kernel) ⟨Nat.le_of_ble_eq_true rfl, Nat.le_of_ble_eq_true rfl⟩) rfl rfl rfl rfl (by decide) rfl rfl rfl rfl rfl rfl (Nat.le_of_ble_eq_true rfl) ⟨Nat.zero_le _, Nat.zero_le _⟩ dX12_moreBehind_42 ?_
  refine a_iand (pc := 45) F dX12_moreBehind_45 ?_
  obtain ⟨t6, ht6, hf⟩ := bd_some hf
  refine a_callV (pc := 46) (bs' := [bX12 y a0 v0]) (kb := 0) (j := 0) F [0] (c_X12_weightOf l D y ek n a0 _ _ _ ht6) (cwV 1 F.1.2.2.2.2 (gV q7_104 q7_106 qs_60 q1_11 q7_107) rfl rfl rfl (by decide +kernel) ⟨Nat.le_of_ble_eq_true rfl, Nat.le_of_ble_eq_true rfl⟩) rfl rfl rfl rfl (by decide) rfl rfl rfl rfl rfl rfl (Nat.le_of_ble_eq_true rfl) ⟨Nat.zero_le _, Nat.zero_le _⟩ dX12_moreBehind_46 ?_
  refine a_imul (pc := 49) F dX12_moreBehind_49 ?_
  refine a_isub (pc := 50) F dX12_moreBehind_50 ?_
  obtain rfl := Option.some.inj hf
  exact hret _ _ _ _ (Nat.zero_le _) (Nat.zero_le _) rfl dX12_moreBehind_51

abbrev wX12_thingsOf : List Cond := Cond.code yX12_thingsOf cX12_thingsOf 2 (some .int) :: WALL
def m_X12_thingsOf (n : Nat) (v0 : St) (x1 : Int32) : Option (Int32) :=
bd (m_X12_thingsIn n v0 (2 * x1)) (fun t1 =>
bd (m_X12_thingsIn n v0 ((2 * x1) + 1)) (fun t2 =>
some (t1 ||| t2)))
set_option maxHeartbeats 4000000 in
set_option maxRecDepth 100000 in
theorem c_X12_thingsOf (l : Launch) (D : va_G) (y : Nat → ClassId) (ek : EK) (n : Nat) (a0 : Nat → Nat) (v0 : St) (x1 : Int32) (res : Int32) (hf : m_X12_thingsOf n v0 x1 = some res) : CI l yX12_thingsOf wX12_thingsOf { frames := 3, cells := 0, slots := 0, locals := 66 } D y ek [.ref (a0 0), .int x1] [bX12 y a0 v0] (res) [bX12 y a0 v0] 0 0 := by
  unfold m_X12_thingsOf at hf
  refine ci_of (cc := cX12_thingsOf) (maxL := 2) (by decide) rfl rfl (Nat.le_of_ble_eq_true rfl) ?_
  intro p e s m below meth c Q A F hret
  refine a_lv (lv' := [(0, .ref (a0 0)), (1, .int x1)]) rfl ?_
  refine a_aloadn (pc := 0) (j := 0) F dX12_thingsOf_0 rfl rfl ?_
  refine a_iconst (pc := 1) F dX12_thingsOf_1 kc_2 ?_
  refine a_iloadn (pc := 2) (j := 1) F dX12_thingsOf_2 rfl rfl ?_
  refine a_imul (pc := 3) F dX12_thingsOf_3 ?_
  obtain ⟨t1, ht1, hf⟩ := bd_some hf
  refine a_callV (pc := 4) (bs' := [bX12 y a0 v0]) (kb := 0) (j := 0) F [0] (c_X12_thingsIn l D y ek n a0 _ _ _ ht1) (cwV 1 F.1.2.2.2.2 (gV q7_96 q7_98 qs_58 q1_11 q7_99) rfl rfl rfl (by decide +kernel) ⟨Nat.le_of_ble_eq_true rfl, Nat.le_of_ble_eq_true rfl⟩) rfl rfl rfl rfl (by decide) rfl rfl rfl rfl rfl rfl (Nat.le_of_ble_eq_true rfl) ⟨Nat.zero_le _, Nat.zero_le _⟩ dX12_thingsOf_4 ?_
  refine a_aloadn (pc := 7) (j := 0) F dX12_thingsOf_7 rfl rfl ?_
  refine a_iconst (pc := 8) F dX12_thingsOf_8 kc_2 ?_
  refine a_iloadn (pc := 9) (j := 1) F dX12_thingsOf_9 rfl rfl ?_
  refine a_imul (pc := 10) F dX12_thingsOf_10 ?_
  refine a_iconst (pc := 11) F dX12_thingsOf_11 kc_1 ?_
  refine a_iadd (pc := 12) F dX12_thingsOf_12 ?_
  obtain ⟨t2, ht2, hf⟩ := bd_some hf
  refine a_callV (pc := 13) (bs' := [bX12 y a0 v0]) (kb := 0) (j := 0) F [0] (c_X12_thingsIn l D y ek n a0 _ _ _ ht2) (cwV 1 F.1.2.2.2.2 (gV q7_96 q7_98 qs_58 q1_11 q7_99) rfl rfl rfl (by decide +kernel) ⟨Nat.le_of_ble_eq_true rfl, Nat.le_of_ble_eq_true rfl⟩) rfl rfl rfl rfl (by decide) rfl rfl rfl rfl rfl rfl (Nat.le_of_ble_eq_true rfl) ⟨Nat.zero_le _, Nat.zero_le _⟩ dX12_thingsOf_13 ?_
  refine a_ior (pc := 16) F dX12_thingsOf_16 ?_
  obtain rfl := Option.some.inj hf
  exact hret _ _ _ _ (Nat.zero_le _) (Nat.zero_le _) rfl dX12_thingsOf_17

abbrev wX12_best : List Cond := Cond.code yX12_best cX12_best 6 (some .int) :: WALL
def m_X12_best (n : Nat) (v0 : St) (x1 : Int32) : Option (Int32 × St) :=
nm (su v0 0 0 0) (fun u1 =>
bd (m_X12_noPlank n u1 x1) (fun t2 =>
bd (m_X12_throwsIf n u1 t2 1) (fun t3 =>
(if t3.1 = 0 then
bd (m_X12_moreBehind n t3.2 x1 0) (fun t4 =>
nm (x_abs t4) (fun x3_5 =>
lp (fun (rc6 : Int32 × Int32 × Int32 → Option (Int32 × St)) (x6l : Int32 × Int32 × Int32) =>
bd (m_X12_things n t3.2) (fun t7 =>
(if t7 ≤ x6l.2.2 then
some (x6l.1, t3.2)
else
bd (m_X12_thingsOf n t3.2 x1) (fun t8 =>
bd (m_X12_holds n t8 x6l.2.2) (fun t9 =>
bd ((if t9 = 0 then
some (x6l.1, x6l.2.1)
else
bd (m_X12_moreBehind n t3.2 x1 (x_shl 1 x6l.2.2)) (fun t11 =>
nm (x_abs t11) (fun x5_12 =>
bd ((if x6l.2.1 ≤ x5_12 then
some x6l.1
else
some x6l.2.2)) (fun (t13 : Int32) =>
nm (x_min x6l.2.1 x5_12) (fun x3_14 =>
some (t13, x3_14))))))) (fun (t10 : Int32 × Int32) =>
rc6 (t10.1, t10.2, (x6l.2.2 + 1)))))))) n ((-1), x3_5, 0)))
else
some (0, t3.2)))))
set_option maxHeartbeats 4000000 in
set_option maxRecDepth 100000 in
theorem c_X12_best (l : Launch) (D : va_G) (y : Nat → ClassId) (ek : EK) (n : Nat) (a0 : Nat → Nat) (v0 : St) (x1 : Int32) (res : Int32 × St) (hf : m_X12_best n v0 x1 = some res) : CI l yX12_best wX12_best { frames := 5, cells := 0, slots := 0, locals := 109 } D y ek [.ref (a0 0), .int x1] [bX12 y a0 v0] (res.1) [bX12 y a0 res.2] 0 0 := by
  unfold m_X12_best at hf
  refine ci_of (cc := cX12_best) (maxL := 6) (by decide) rfl rfl (Nat.le_of_ble_eq_true rfl) ?_
  intro p e s m below meth c Q A F hret
  refine a_lv (lv' := [(0, .ref (a0 0)), (1, .int x1)]) rfl ?_
  refine a_aloadn (pc := 0) (j := 0) F dX12_best_0 rfl rfl ?_
  refine a_iconst (pc := 1) F dX12_best_1 kc_0 ?_
  obtain ⟨u1, eu1, hf⟩ := nm_some hf
  refine a_put (pc := 2) (kb := 0) (j := 0) (f := 0) (ty := .int) (bs' := [bX12 y a0 u1]) F iW_X12 rfl rfl rfl (by decide) (tl q6_68) (fun _ h => h) tyX12 tyX12_ok nmX12 rfl rfl rfl rfl (Nat.le_of_ble_eq_true rfl) (by rw [eu1]; rfl) dX12_best_2 ?_
  refine a_aloadn (pc := 5) (j := 0) F dX12_best_5 rfl rfl ?_
  refine a_aloadn (pc := 6) (j := 0) F dX12_best_6 rfl rfl ?_
  refine a_iloadn (pc := 7) (j := 1) F dX12_best_7 rfl rfl ?_
  obtain ⟨t2, ht2, hf⟩ := bd_some hf
  refine a_callV (pc := 8) (bs' := [bX12 y a0 u1]) (kb := 0) (j := 0) F [0] (c_X12_noPlank l D y ek n a0 _ _ _ ht2) (cwV 1 F.1.2.2.2.2 (gV q7_73 q7_75 qs_53 q1_11 q7_76) rfl rfl rfl (by decide +kernel) ⟨Nat.le_of_ble_eq_true rfl, Nat.le_of_ble_eq_true rfl⟩) rfl rfl rfl rfl (by decide) rfl rfl rfl rfl rfl rfl (Nat.le_of_ble_eq_true rfl) ⟨Nat.zero_le _, Nat.zero_le _⟩ dX12_best_8 ?_
  refine a_iconst (pc := 11) F dX12_best_11 kc_1 ?_
  obtain ⟨t3, ht3, hf⟩ := bd_some hf
  refine a_callV (pc := 12) (bs' := [bX12 y a0 t3.2]) (kb := 0) (j := 0) F [0] (c_X12_throwsIf l D y ek n a0 _ _ _ _ ht3) (cwV 2 F.1.2.2.2.2 (gV q7_61 q7_63 qs_52 q1_11 q7_64) rfl rfl rfl (by decide +kernel) ⟨Nat.le_of_ble_eq_true rfl, Nat.le_of_ble_eq_true rfl⟩) rfl rfl rfl rfl (by decide) rfl rfl rfl rfl rfl rfl (Nat.le_of_ble_eq_true rfl) ⟨Nat.zero_le _, Nat.zero_le _⟩ dX12_best_12 ?_
  refine a_if_eq (pc := 15) (tgt := 20) F dX12_best_15 (by decide) (fun h => ?_) (fun h => ?_)
  · replace hf := it_pos h hf
    refine a_iconst (pc := 20) F dX12_best_20 kc_m1 ?_
    refine a_istoren (pc := 21) (lv' := [(0, .ref (a0 0)), (1, .int x1), (2, .int (-1))]) F [1, 2, 0] dX12_best_21 rfl (by decide) rfl ?_
    refine a_aloadn (pc := 22) (j := 0) F dX12_best_22 rfl rfl ?_
    refine a_iloadn (pc := 23) (j := 1) F dX12_best_23 rfl rfl ?_
    refine a_iconst (pc := 24) F dX12_best_24 kc_0 ?_
    obtain ⟨t4, ht4, hf⟩ := bd_some hf
    refine a_callV (pc := 25) (bs' := [bX12 y a0 t3.2]) (kb := 0) (j := 0) F [0] (c_X12_moreBehind l D y ek n a0 _ _ _ _ ht4) (cwV 2 F.1.2.2.2.2 (gV q8_105 q8_107 qs_95 q1_11 q8_108) rfl rfl rfl (by decide +kernel) ⟨Nat.le_of_ble_eq_true rfl, Nat.le_of_ble_eq_true rfl⟩) rfl rfl rfl rfl (by decide) rfl rfl rfl rfl rfl rfl (Nat.le_of_ble_eq_true rfl) ⟨Nat.zero_le _, Nat.zero_le _⟩ dX12_best_25 ?_
    refine a_mabs (pc := 28) F (tl q8_109) (tl q5_78) (tl q1_22) (tl q_math_abs) (Nat.le_of_ble_eq_true rfl) (Nat.le_of_ble_eq_true rfl) (Nat.zero_le _) (Nat.zero_le _) dX12_best_28 ?_
    obtain ⟨x3_5, ex3_5, hf⟩ := nm_some hf
    refine a_nmi ex3_5 ?_
    refine a_istoren (pc := 31) (lv' := [(0, .ref (a0 0)), (1, .int x1), (2, .int (-1)), (3, .int x3_5)]) F [1, 2, 3, 0] dX12_best_31 rfl (by decide) rfl ?_
    refine a_iconst (pc := 32) F dX12_best_32 kc_0 ?_
    refine a_istore (pc := 33) (lv' := [(0, .ref (a0 0)), (1, .int x1), (2, .int (-1)), (3, .int x3_5), (4, .int 0)]) F [1, 2, 3, 4, 0] dX12_best_33 (by decide) rfl ?_
    refine a_loop 35 (fun (x6l : Int32 × Int32 × Int32) => [(0, .ref (a0 0)), (1, .int x1), (2, .int x6l.1), (3, .int x6l.2.1), (4, .int x6l.2.2)]) (fun (x6l : Int32 × Int32 × Int32) => [bX12 y a0 t3.2]) (fun rc6 x6l ih6 hf => ?_) hf rfl rfl
    try dsimp only at hf ⊢
    refine a_iload (pc := 35) (j := 4) F dX12_best_35 rfl ?_
    refine a_aloadn (pc := 37) (j := 0) F dX12_best_37 rfl rfl ?_
    obtain ⟨t7, ht7, hf⟩ := bd_some hf
    refine a_callV (pc := 38) (bs' := [bX12 y a0 t3.2]) (kb := 0) (j := 0) F [0] (c_X12_things l D y ek n a0 _ _ ht7) (cwV 0 F.1.2.2.2.2 (gV q6_234 q6_236 qs_41 q1_11 q6_237) rfl rfl rfl (by decide +kernel) ⟨Nat.le_of_ble_eq_true rfl, Nat.le_of_ble_eq_true rfl⟩) rfl rfl rfl rfl (by decide) rfl rfl rfl rfl rfl rfl (Nat.le_of_ble_eq_true rfl) ⟨Nat.zero_le _, Nat.zero_le _⟩ dX12_best_38 ?_
    refine a_icmp_ge (pc := 41) (tgt := 100) F dX12_best_41 (by decide) (fun h => ?_) (fun h => ?_)
    · replace hf := it_pos h hf
      refine a_iloadn (pc := 100) (j := 2) F dX12_best_100 rfl rfl ?_
      obtain rfl := Option.some.inj hf
      exact hret _ _ _ _ (Nat.zero_le _) (Nat.zero_le _) rfl dX12_best_101
    · replace hf := it_neg h hf
      refine a_aloadn (pc := 44) (j := 0) F dX12_best_44 rfl rfl ?_
      refine a_iloadn (pc := 45) (j := 1) F dX12_best_45 rfl rfl ?_
      obtain ⟨t8, ht8, hf⟩ := bd_some hf
      refine a_callV (pc := 46) (bs' := [bX12 y a0 t3.2]) (kb := 0) (j := 0) F [0] (c_X12_thingsOf l D y ek n a0 _ _ _ ht8) (cwV 1 F.1.2.2.2.2 (gV q8_110 q8_112 qs_96 q1_11 q8_113) rfl rfl rfl (by decide +kernel) ⟨Nat.le_of_ble_eq_true rfl, Nat.le_of_ble_eq_true rfl⟩) rfl rfl rfl rfl (by decide) rfl rfl rfl rfl rfl rfl (Nat.le_of_ble_eq_true rfl) ⟨Nat.zero_le _, Nat.zero_le _⟩ dX12_best_46 ?_
      refine a_iload (pc := 49) (j := 4) F dX12_best_49 rfl ?_
      obtain ⟨t9, ht9, hf⟩ := bd_some hf
      refine a_callS (pc := 51) (bs' := [bX12 y a0 t3.2]) F [] (c_X12_holds l D y ek n  _ _ _ ht9) (va_cwS 2 F.1.2.2.2.2 (gS q7_108 q7_109 q1_11 q7_110) rfl rfl rfl (by decide +kernel) ⟨Nat.le_of_ble_eq_true rfl, Nat.le_of_ble_eq_true rfl⟩) (by decide) rfl rfl rfl rfl rfl rfl (Nat.le_of_ble_eq_true rfl) ⟨Nat.zero_le _, Nat.zero_le _⟩ dX12_best_51 ?_
      refine a_join 94 (fun (t10 : Int32 × Int32) => [(0, .ref (a0 0)), (1, .int x1), (2, .int t10.1), (3, .int t10.2), (4, .int x6l.2.2)]) (fun (t10 : Int32 × Int32) => []) (fun (t10 : Int32 × Int32) => [bX12 y a0 t3.2]) hf (fun t10 hf => ?_) (fun t10 hf J10 => ?_)
      · try dsimp only at hf ⊢
        refine a_iinc (pc := 94) (j := 4) (v := (x6l.2.2 + 1)) (lv' := [(0, .ref (a0 0)), (1, .int x1), (2, .int t10.1), (3, .int t10.2), (4, .int (x6l.2.2 + 1))]) F [1, 2, 3, 4, 0] dX12_best_94 rfl ki_1 (by decide) rfl ?_
        refine a_goto (pc := 97) (tgt := 35) F dX12_best_97 (by decide) ?_
        exact ih6 (t10.1, t10.2, (x6l.2.2 + 1)) hf
      · refine a_if_ne (pc := 54) (tgt := 60) F dX12_best_54 (by decide) (fun h => ?_) (fun h => ?_)
        · replace hf := it_neg h hf
          refine a_aloadn (pc := 60) (j := 0) F dX12_best_60 rfl rfl ?_
          refine a_iloadn (pc := 61) (j := 1) F dX12_best_61 rfl rfl ?_
          refine a_iconst (pc := 62) F dX12_best_62 kc_1 ?_
          refine a_iload (pc := 63) (j := 4) F dX12_best_63 rfl ?_
          refine a_ishl (pc := 65) F dX12_best_65 ?_
          obtain ⟨t11, ht11, hf⟩ := bd_some hf
          refine a_callV (pc := 66) (bs' := [bX12 y a0 t3.2]) (kb := 0) (j := 0) F [0] (c_X12_moreBehind l D y ek n a0 _ _ _ _ ht11) (cwV 2 F.1.2.2.2.2 (gV q8_105 q8_107 qs_95 q1_11 q8_108) rfl rfl rfl (by decide +kernel) ⟨Nat.le_of_ble_eq_true rfl, Nat.le_of_ble_eq_true rfl⟩) rfl rfl rfl rfl (by decide) rfl rfl rfl rfl rfl rfl (Nat.le_of_ble_eq_true rfl) ⟨Nat.zero_le _, Nat.zero_le _⟩ dX12_best_66 ?_
          refine a_mabs (pc := 69) F (tl q8_109) (tl q5_78) (tl q1_22) (tl q_math_abs) (Nat.le_of_ble_eq_true rfl) (Nat.le_of_ble_eq_true rfl) (Nat.zero_le _) (Nat.zero_le _) dX12_best_69 ?_
          obtain ⟨x5_12, ex5_12, hf⟩ := nm_some hf
          refine a_nmi ex5_12 ?_
          refine a_istore (pc := 72) (lv' := [(0, .ref (a0 0)), (1, .int x1), (2, .int x6l.1), (3, .int x6l.2.1), (4, .int x6l.2.2), (5, .int x5_12)]) F [1, 2, 3, 4, 5, 0] dX12_best_72 (by decide) rfl ?_
          refine a_iload (pc := 74) (j := 5) F dX12_best_74 rfl ?_
          refine a_iloadn (pc := 76) (j := 3) F dX12_best_76 rfl rfl ?_
          refine a_join 86 (fun (t13 : Int32) => [(0, .ref (a0 0)), (1, .int x1), (3, .int x6l.2.1), (4, .int x6l.2.2), (5, .int x5_12)]) (fun (t13 : Int32) => [.int t13]) (fun (t13 : Int32) => [bX12 y a0 t3.2]) hf (fun t13 hf => ?_) (fun t13 hf J13 => ?_)
          · try dsimp only at hf ⊢
            refine a_istoren (pc := 86) (lv' := [(0, .ref (a0 0)), (1, .int x1), (2, .int t13), (3, .int x6l.2.1), (4, .int x6l.2.2), (5, .int x5_12)]) F [1, 2, 0, 3, 4, 5] dX12_best_86 rfl (by decide) rfl ?_
            refine a_iloadn (pc := 87) (j := 3) F dX12_best_87 rfl rfl ?_
            refine a_iload (pc := 88) (j := 5) F dX12_best_88 rfl ?_
            refine a_mmin (pc := 90) F (tl q7_119) (tl q2_170) (tl q1_22) (tl q_math_min) (Nat.le_of_ble_eq_true rfl) (Nat.le_of_ble_eq_true rfl) (Nat.zero_le _) (Nat.zero_le _) dX12_best_90 ?_
            obtain ⟨x3_14, ex3_14, hf⟩ := nm_some hf
            refine a_nmi ex3_14 ?_
            refine a_istoren (pc := 93) (lv' := [(0, .ref (a0 0)), (1, .int x1), (2, .int t13), (3, .int x3_14), (4, .int x6l.2.2), (5, .int x5_12)]) F [1, 2, 3, 0, 4, 5] dX12_best_93 rfl (by decide) rfl ?_
            refine a_sub [0, 1, 2, 3, 4] rfl ?_
            obtain rfl := Option.some.inj hf
            exact J10
          · refine a_icmp_ge (pc := 77) (tgt := 85) F dX12_best_77 (by decide) (fun h => ?_) (fun h => ?_)
            · replace hf := it_pos h hf
              refine a_iloadn (pc := 85) (j := 2) F dX12_best_85 rfl rfl ?_
              refine a_sub [0, 1, 3, 4, 5] rfl ?_
              obtain rfl := Option.some.inj hf
              exact J13
            · replace hf := it_neg h hf
              refine a_iload (pc := 80) (j := 4) F dX12_best_80 rfl ?_
              refine a_goto (pc := 82) (tgt := 86) F dX12_best_82 (by decide) ?_
              refine a_sub [0, 1, 3, 4, 5] rfl ?_
              obtain rfl := Option.some.inj hf
              exact J13
        · replace hf := it_pos h hf
          refine a_goto (pc := 57) (tgt := 94) F dX12_best_57 (by decide) ?_
          obtain rfl := Option.some.inj hf
          exact J10
  · replace hf := it_neg h hf
    refine a_iconst (pc := 18) F dX12_best_18 kc_0 ?_
    obtain rfl := Option.some.inj hf
    exact hret _ _ _ _ (Nat.zero_le _) (Nat.zero_le _) rfl dX12_best_19

abbrev wX12_carriedTo : List Cond := Cond.code yX12_carriedTo cX12_carriedTo 9 (some .int) :: WALL
def m_X12_carriedTo (n : Nat) (v0 : St) (x1 : Int32) (x2 : Int32) (x3 : Int32) : Option (Int32) :=
bd (m_X12_thingsOf n v0 x1) (fun t1 =>
lp (fun (rc2 : Int32 × Int32 × Int32 → Option (Int32)) (x2l : Int32 × Int32 × Int32) =>
(if t1 < x2l.2.2 then
some x2l.1
else
bd ((if (x2l.2.2 &&& (t1 ^^^ (-1))) = 0 then
bd (m_X12_moreBehind n v0 x1 x2l.2.2) (fun t4 =>
bd (m_X12_tiltBy n v0 t4) (fun t5 =>
(if t5 = x2 then
bd ((if x3 = 0 then
bd (m_J6_bitCount_0f7a4 n x2l.2.2) (fun t9 =>
some t9)
else
bd (m_X12_weightOf n v0 x2l.2.2) (fun t10 =>
some t10))) (fun (t6 : Int32) =>
bd ((if x2l.2.1 ≤ t6 then
some x2l.1
else
some x2l.2.2)) (fun (t7 : Int32) =>
nm (x_min x2l.2.1 t6) (fun x6_8 =>
some (t7, x6_8))))
else
some (x2l.1, x2l.2.1))))
else
some (x2l.1, x2l.2.1))) (fun (t3 : Int32 × Int32) =>
rc2 (t3.1, t3.2, (x2l.2.2 + 1))))) n ((-1), 1000000, 0))
set_option maxHeartbeats 4000000 in
set_option maxRecDepth 100000 in
theorem c_X12_carriedTo (l : Launch) (D : va_G) (y : Nat → ClassId) (ek : EK) (n : Nat) (a0 : Nat → Nat) (v0 : St) (x1 : Int32) (x2 : Int32) (x3 : Int32) (res : Int32) (hf : m_X12_carriedTo n v0 x1 x2 x3 = some res) : CI l yX12_carriedTo wX12_carriedTo { frames := 5, cells := 0, slots := 0, locals := 109 } D y ek [.ref (a0 0), .int x1, .int x2, .int x3] [bX12 y a0 v0] (res) [bX12 y a0 v0] 0 0 := by
  unfold m_X12_carriedTo at hf
  refine ci_of (cc := cX12_carriedTo) (maxL := 9) (by decide) rfl rfl (Nat.le_of_ble_eq_true rfl) ?_
  intro p e s m below meth c Q A F hret
  refine a_lv (lv' := [(0, .ref (a0 0)), (1, .int x1), (2, .int x2), (3, .int x3)]) rfl ?_
  refine a_aloadn (pc := 0) (j := 0) F dX12_carriedTo_0 rfl rfl ?_
  refine a_iloadn (pc := 1) (j := 1) F dX12_carriedTo_1 rfl rfl ?_
  obtain ⟨t1, ht1, hf⟩ := bd_some hf
  refine a_callV (pc := 2) (bs' := [bX12 y a0 v0]) (kb := 0) (j := 0) F [0] (c_X12_thingsOf l D y ek n a0 _ _ _ ht1) (cwV 1 F.1.2.2.2.2 (gV q8_110 q8_112 qs_96 q1_11 q8_113) rfl rfl rfl (by decide +kernel) ⟨Nat.le_of_ble_eq_true rfl, Nat.le_of_ble_eq_true rfl⟩) rfl rfl rfl rfl (by decide) rfl rfl rfl rfl rfl rfl (Nat.le_of_ble_eq_true rfl) ⟨Nat.zero_le _, Nat.zero_le _⟩ dX12_carriedTo_2 ?_
  refine a_istore (pc := 5) (lv' := [(0, .ref (a0 0)), (1, .int x1), (2, .int x2), (3, .int x3), (4, .int t1)]) F [1, 2, 3, 4, 0] dX12_carriedTo_5 (by decide) rfl ?_
  refine a_iconst (pc := 7) F dX12_carriedTo_7 kc_m1 ?_
  refine a_istore (pc := 8) (lv' := [(0, .ref (a0 0)), (1, .int x1), (2, .int x2), (3, .int x3), (4, .int t1), (5, .int (-1))]) F [1, 2, 3, 4, 5, 0] dX12_carriedTo_8 (by decide) rfl ?_
  refine a_ldcw (pc := 10) (v := 1000000) F (tl q8_125) dX12_carriedTo_10 ?_
  refine a_istore (pc := 13) (lv' := [(0, .ref (a0 0)), (1, .int x1), (2, .int x2), (3, .int x3), (4, .int t1), (5, .int (-1)), (6, .int 1000000)]) F [1, 2, 3, 4, 5, 6, 0] dX12_carriedTo_13 (by decide) rfl ?_
  refine a_iconst (pc := 15) F dX12_carriedTo_15 kc_0 ?_
  refine a_istore (pc := 16) (lv' := [(0, .ref (a0 0)), (1, .int x1), (2, .int x2), (3, .int x3), (4, .int t1), (5, .int (-1)), (6, .int 1000000), (7, .int 0)]) F [1, 2, 3, 4, 5, 6, 7, 0] dX12_carriedTo_16 (by decide) rfl ?_
  refine a_loop 18 (fun (x2l : Int32 × Int32 × Int32) => [(0, .ref (a0 0)), (1, .int x1), (2, .int x2), (3, .int x3), (4, .int t1), (5, .int x2l.1), (6, .int x2l.2.1), (7, .int x2l.2.2)]) (fun (x2l : Int32 × Int32 × Int32) => [bX12 y a0 v0]) (fun rc2 x2l ih2 hf => ?_) hf rfl rfl
  try dsimp only at hf ⊢
  refine a_iload (pc := 18) (j := 7) F dX12_carriedTo_18 rfl ?_
  refine a_iload (pc := 20) (j := 4) F dX12_carriedTo_20 rfl ?_
  refine a_icmp_gt (pc := 22) (tgt := 104) F dX12_carriedTo_22 (by decide) (fun h => ?_) (fun h => ?_)
  · replace hf := it_pos h hf
    refine a_iload (pc := 104) (j := 5) F dX12_carriedTo_104 rfl ?_
    obtain rfl := Option.some.inj hf
    exact hret _ _ _ _ (Nat.zero_le _) (Nat.zero_le _) rfl dX12_carriedTo_106
  · replace hf := it_neg h hf
    refine a_iload (pc := 25) (j := 7) F dX12_carriedTo_25 rfl ?_
    refine a_iload (pc := 27) (j := 4) F dX12_carriedTo_27 rfl ?_
    refine a_iconst (pc := 29) F dX12_carriedTo_29 kc_m1 ?_
    refine a_ixor (pc := 30) F dX12_carriedTo_30 ?_
    refine a_iand (pc := 31) F dX12_carriedTo_31 ?_
    refine a_join 98 (fun (t3 : Int32 × Int32) => [(0, .ref (a0 0)), (1, .int x1), (2, .int x2), (3, .int x3), (4, .int t1), (5, .int t3.1), (6, .int t3.2), (7, .int x2l.2.2)]) (fun (t3 : Int32 × Int32) => []) (fun (t3 : Int32 × Int32) => [bX12 y a0 v0]) hf (fun t3 hf => ?_) (fun t3 hf J3 => ?_)
    · try dsimp only at hf ⊢
      refine a_iinc (pc := 98) (j := 7) (v := (x2l.2.2 + 1)) (lv' := [(0, .ref (a0 0)), (1, .int x1), (2, .int x2), (3, .int x3), (4, .int t1), (5, .int t3.1), (6, .int t3.2), (7, .int (x2l.2.2 + 1))]) F [1, 2, 3, 4, 5, 6, 7, 0] dX12_carriedTo_98 rfl ki_1 (by decide) rfl ?_
      refine a_goto (pc := 101) (tgt := 18) F dX12_carriedTo_101 (by decide) ?_
      exact ih2 (t3.1, t3.2, (x2l.2.2 + 1)) hf
    · refine a_if_ne (pc := 32) (tgt := 98) F dX12_carriedTo_32 (by decide) (fun h => ?_) (fun h => ?_)
      · replace hf := it_neg h hf
        obtain rfl := Option.some.inj hf
        exact J3
      · replace hf := it_pos h hf
        refine a_aloadn (pc := 35) (j := 0) F dX12_carriedTo_35 rfl rfl ?_
        refine a_aloadn (pc := 36) (j := 0) F dX12_carriedTo_36 rfl rfl ?_
        refine a_iloadn (pc := 37) (j := 1) F dX12_carriedTo_37 rfl rfl ?_
        refine a_iload (pc := 38) (j := 7) F dX12_carriedTo_38 rfl ?_
        obtain ⟨t4, ht4, hf⟩ := bd_some hf
        refine a_callV (pc := 40) (bs' := [bX12 y a0 v0]) (kb := 0) (j := 0) F [0] (c_X12_moreBehind l D y ek n a0 _ _ _ _ ht4) (cwV 2 F.1.2.2.2.2 (gV q8_105 q8_107 qs_95 q1_11 q8_108) rfl rfl rfl (by decide +kernel) ⟨Nat.le_of_ble_eq_true rfl, Nat.le_of_ble_eq_true rfl⟩) rfl rfl rfl rfl (by decide) rfl rfl rfl rfl rfl rfl (Nat.le_of_ble_eq_true rfl) ⟨Nat.zero_le _, Nat.zero_le _⟩ dX12_carriedTo_40 ?_
        obtain ⟨t5, ht5, hf⟩ := bd_some hf
        refine a_callV (pc := 43) (bs' := [bX12 y a0 v0]) (kb := 0) (j := 0) F [0] (c_X12_tiltBy l D y ek n a0 _ _ _ ht5) (cwV 1 F.1.2.2.2.2 (gV q7_115 q7_117 qs_62 q1_11 q7_118) rfl rfl rfl (by decide +kernel) ⟨Nat.le_of_ble_eq_true rfl, Nat.le_of_ble_eq_true rfl⟩) rfl rfl rfl rfl (by decide) rfl rfl rfl rfl rfl rfl (Nat.le_of_ble_eq_true rfl) ⟨Nat.zero_le _, Nat.zero_le _⟩ dX12_carriedTo_43 ?_
        refine a_iloadn (pc := 46) (j := 2) F dX12_carriedTo_46 rfl rfl ?_
        refine a_icmp_eq (pc := 47) (tgt := 53) F dX12_carriedTo_47 (by decide) (fun h => ?_) (fun h => ?_)
        · replace hf := it_pos h hf
          refine a_iloadn (pc := 53) (j := 3) F dX12_carriedTo_53 rfl rfl ?_
          refine a_join 71 (fun (t6 : Int32) => [(0, .ref (a0 0)), (1, .int x1), (2, .int x2), (3, .int x3), (4, .int t1), (5, .int x2l.1), (6, .int x2l.2.1), (7, .int x2l.2.2)]) (fun (t6 : Int32) => [.int t6]) (fun (t6 : Int32) => [bX12 y a0 v0]) hf (fun t6 hf => ?_) (fun t6 hf J6 => ?_)
          · try dsimp only at hf ⊢
            refine a_istore (pc := 71) (lv' := [(0, .ref (a0 0)), (1, .int x1), (2, .int x2), (3, .int x3), (4, .int t1), (5, .int x2l.1), (6, .int x2l.2.1), (7, .int x2l.2.2), (8, .int t6)]) F [1, 2, 3, 4, 5, 6, 7, 8, 0] dX12_carriedTo_71 (by decide) rfl ?_
            refine a_iload (pc := 73) (j := 8) F dX12_carriedTo_73 rfl ?_
            refine a_iload (pc := 75) (j := 6) F dX12_carriedTo_75 rfl ?_
            refine a_join 87 (fun (t7 : Int32) => [(0, .ref (a0 0)), (1, .int x1), (2, .int x2), (3, .int x3), (4, .int t1), (6, .int x2l.2.1), (7, .int x2l.2.2), (8, .int t6)]) (fun (t7 : Int32) => [.int t7]) (fun (t7 : Int32) => [bX12 y a0 v0]) hf (fun t7 hf => ?_) (fun t7 hf J7 => ?_)
            · try dsimp only at hf ⊢
              refine a_istore (pc := 87) (lv' := [(0, .ref (a0 0)), (1, .int x1), (2, .int x2), (3, .int x3), (4, .int t1), (5, .int t7), (6, .int x2l.2.1), (7, .int x2l.2.2), (8, .int t6)]) F [1, 2, 3, 4, 5, 0, 6, 7, 8] dX12_carriedTo_87 (by decide) rfl ?_
              refine a_iload (pc := 89) (j := 6) F dX12_carriedTo_89 rfl ?_
              refine a_iload (pc := 91) (j := 8) F dX12_carriedTo_91 rfl ?_
              refine a_mmin (pc := 93) F (tl q7_119) (tl q2_170) (tl q1_22) (tl q_math_min) (Nat.le_of_ble_eq_true rfl) (Nat.le_of_ble_eq_true rfl) (Nat.zero_le _) (Nat.zero_le _) dX12_carriedTo_93 ?_
              obtain ⟨x6_8, ex6_8, hf⟩ := nm_some hf
              refine a_nmi ex6_8 ?_
              refine a_istore (pc := 96) (lv' := [(0, .ref (a0 0)), (1, .int x1), (2, .int x2), (3, .int x3), (4, .int t1), (5, .int t7), (6, .int x6_8), (7, .int x2l.2.2), (8, .int t6)]) F [1, 2, 3, 4, 5, 6, 0, 7, 8] dX12_carriedTo_96 (by decide) rfl ?_
              refine a_sub [0, 1, 2, 3, 4, 5, 6, 7] rfl ?_
              obtain rfl := Option.some.inj hf
              exact J3
            · refine a_icmp_ge (pc := 77) (tgt := 85) F dX12_carriedTo_77 (by decide) (fun h => ?_) (fun h => ?_)
              · replace hf := it_pos h hf
                refine a_iload (pc := 85) (j := 5) F dX12_carriedTo_85 rfl ?_
                refine a_sub [0, 1, 2, 3, 4, 6, 7, 8] rfl ?_
                obtain rfl := Option.some.inj hf
                exact J7
              · replace hf := it_neg h hf
                refine a_iload (pc := 80) (j := 7) F dX12_carriedTo_80 rfl ?_
                refine a_goto (pc := 82) (tgt := 87) F dX12_carriedTo_82 (by decide) ?_
                refine a_sub [0, 1, 2, 3, 4, 6, 7, 8] rfl ?_
                obtain rfl := Option.some.inj hf
                exact J7
          · refine a_if_eq (pc := 54) (tgt := 66) F dX12_carriedTo_54 (by decide) (fun h => ?_) (fun h => ?_)
            · replace hf := it_pos h hf
              refine a_iload (pc := 66) (j := 7) F dX12_carriedTo_66 rfl ?_
              obtain ⟨t9, ht9, hf⟩ := bd_some hf
              refine a_callS (pc := 68) (bs' := [bX12 y a0 v0]) F [] (c_J6_bitCount_0f7a4 l D y ek n  _ _ ht9) (va_cwS 1 F.1.2.2.2.2 (gS q8_23 q5_100 q1_26 q5_101) rfl rfl rfl (by decide +kernel) ⟨Nat.le_of_ble_eq_true rfl, Nat.le_of_ble_eq_true rfl⟩) (by decide) rfl rfl rfl rfl rfl rfl (Nat.le_of_ble_eq_true rfl) ⟨Nat.zero_le _, Nat.zero_le _⟩ dX12_carriedTo_68 ?_
              obtain rfl := Option.some.inj hf
              exact J6
            · replace hf := it_neg h hf
              refine a_aloadn (pc := 57) (j := 0) F dX12_carriedTo_57 rfl rfl ?_
              refine a_iload (pc := 58) (j := 7) F dX12_carriedTo_58 rfl ?_
              obtain ⟨t10, ht10, hf⟩ := bd_some hf
              refine a_callV (pc := 60) (bs' := [bX12 y a0 v0]) (kb := 0) (j := 0) F [0] (c_X12_weightOf l D y ek n a0 _ _ _ ht10) (cwV 1 F.1.2.2.2.2 (gV q7_104 q7_106 qs_60 q1_11 q7_107) rfl rfl rfl (by decide +kernel) ⟨Nat.le_of_ble_eq_true rfl, Nat.le_of_ble_eq_true rfl⟩) rfl rfl rfl rfl (by decide) rfl rfl rfl rfl rfl rfl (Nat.le_of_ble_eq_true rfl) ⟨Nat.zero_le _, Nat.zero_le _⟩ dX12_carriedTo_60 ?_
              refine a_goto (pc := 63) (tgt := 71) F dX12_carriedTo_63 (by decide) ?_
              obtain rfl := Option.some.inj hf
              exact J6
        · replace hf := it_neg h hf
          refine a_goto (pc := 50) (tgt := 98) F dX12_carriedTo_50 (by decide) ?_
          obtain rfl := Option.some.inj hf
          exact J3

abbrev wX12_noTilt : List Cond := Cond.code yX12_noTilt cX12_noTilt 1 (some .boolean) :: WALL
def m_X12_noTilt (n : Nat) (x0 : Int32) : Option (Int32) :=
bd (m_X12_in n x0 (-5) 5) (fun t1 =>
(if t1 = 0 then
some 1
else
some 0))
set_option maxHeartbeats 4000000 in
set_option maxRecDepth 100000 in
theorem c_X12_noTilt (l : Launch) (D : va_G) (y : Nat → ClassId) (ek : EK) (n : Nat) (x0 : Int32) (res : Int32) (hf : m_X12_noTilt n x0 = some res) : CI l yX12_noTilt wX12_noTilt { frames := 1, cells := 0, slots := 0, locals := 22 } D y ek [.int x0] [] (res) [] 0 0 := by
  unfold m_X12_noTilt at hf
  refine ci_of (cc := cX12_noTilt) (maxL := 1) (by decide) rfl rfl (Nat.le_of_ble_eq_true rfl) ?_
  intro p e s m below meth c Q A F hret
  refine a_lv (lv' := [(0, .int x0)]) rfl ?_
  refine a_iloadn (pc := 0) (j := 0) F dX12_noTilt_0 rfl rfl ?_
  refine a_bipush (pc := 1) F dX12_noTilt_1 kb_m5 ?_
  refine a_iconst (pc := 3) F dX12_noTilt_3 kc_5 ?_
  obtain ⟨t1, ht1, hf⟩ := bd_some hf
  refine a_callS (pc := 4) (bs' := []) F [] (c_X12_in l D y ek n  _ _ _ _ ht1) (va_cwS 3 F.1.2.2.2.2 (gS q7_77 q7_78 q1_11 q7_79) rfl rfl rfl (by decide +kernel) ⟨Nat.le_of_ble_eq_true rfl, Nat.le_of_ble_eq_true rfl⟩) (by decide) rfl rfl rfl rfl rfl rfl (Nat.le_of_ble_eq_true rfl) ⟨Nat.zero_le _, Nat.zero_le _⟩ dX12_noTilt_4 ?_
  refine a_if_ne (pc := 7) (tgt := 14) F dX12_noTilt_7 (by decide) (fun h => ?_) (fun h => ?_)
  · replace hf := it_neg h hf
    refine a_iconst (pc := 14) F dX12_noTilt_14 kc_0 ?_
    obtain rfl := Option.some.inj hf
    exact hret _ _ _ _ (Nat.zero_le _) (Nat.zero_le _) (z_nar (Or.inl rfl)) dX12_noTilt_15
  · replace hf := it_pos h hf
    refine a_iconst (pc := 10) F dX12_noTilt_10 kc_1 ?_
    refine a_goto (pc := 11) (tgt := 15) F dX12_noTilt_11 (by decide) ?_
    obtain rfl := Option.some.inj hf
    exact hret _ _ _ _ (Nat.zero_le _) (Nat.zero_le _) (z_nar (Or.inr rfl)) dX12_noTilt_15

abbrev wX12_stand : List Cond := Cond.code yX12_stand cX12_stand 3 (some .int) :: WALL
def m_X12_stand (n : Nat) (v0 : St) (x1 : Int32) (x2 : Int32) : Option (Int32 × St) :=
nm (su v0 0 0 0) (fun u1 =>
bd (m_X12_noPlank n u1 x1) (fun t2 =>
bd (m_X12_throwsIf n u1 t2 1) (fun t3 =>
jn (fun (t4 : St) =>
some (0, t4)) (fun (K4 : St → Option (Int32 × St)) =>
(if t3.1 = 0 then
bd (m_X12_noTilt n x2) (fun t5 =>
bd (m_X12_throwsIf n t3.2 t5 2) (fun t6 =>
(if t6.1 = 0 then
bd (m_X12_carriedTo n t6.2 x1 x2 0) (fun t7 =>
some (t7, t6.2))
else
K4 t6.2)))
else
K4 t3.2)))))
set_option maxHeartbeats 4000000 in
set_option maxRecDepth 100000 in
theorem c_X12_stand (l : Launch) (D : va_G) (y : Nat → ClassId) (ek : EK) (n : Nat) (a0 : Nat → Nat) (v0 : St) (x1 : Int32) (x2 : Int32) (res : Int32 × St) (hf : m_X12_stand n v0 x1 x2 = some res) : CI l yX12_stand wX12_stand { frames := 6, cells := 0, slots := 0, locals := 137 } D y ek [.ref (a0 0), .int x1, .int x2] [bX12 y a0 v0] (res.1) [bX12 y a0 res.2] 0 0 := by
  unfold m_X12_stand at hf
  refine ci_of (cc := cX12_stand) (maxL := 3) (by decide) rfl rfl (Nat.le_of_ble_eq_true rfl) ?_
  intro p e s m below meth c Q A F hret
  refine a_lv (lv' := [(0, .ref (a0 0)), (1, .int x1), (2, .int x2)]) rfl ?_
  refine a_aloadn (pc := 0) (j := 0) F dX12_stand_0 rfl rfl ?_
  refine a_iconst (pc := 1) F dX12_stand_1 kc_0 ?_
  obtain ⟨u1, eu1, hf⟩ := nm_some hf
  refine a_put (pc := 2) (kb := 0) (j := 0) (f := 0) (ty := .int) (bs' := [bX12 y a0 u1]) F iW_X12 rfl rfl rfl (by decide) (tl q6_68) (fun _ h => h) tyX12 tyX12_ok nmX12 rfl rfl rfl rfl (Nat.le_of_ble_eq_true rfl) (by rw [eu1]; rfl) dX12_stand_2 ?_
  refine a_aloadn (pc := 5) (j := 0) F dX12_stand_5 rfl rfl ?_
  refine a_aloadn (pc := 6) (j := 0) F dX12_stand_6 rfl rfl ?_
  refine a_iloadn (pc := 7) (j := 1) F dX12_stand_7 rfl rfl ?_
  obtain ⟨t2, ht2, hf⟩ := bd_some hf
  refine a_callV (pc := 8) (bs' := [bX12 y a0 u1]) (kb := 0) (j := 0) F [0] (c_X12_noPlank l D y ek n a0 _ _ _ ht2) (cwV 1 F.1.2.2.2.2 (gV q7_73 q7_75 qs_53 q1_11 q7_76) rfl rfl rfl (by decide +kernel) ⟨Nat.le_of_ble_eq_true rfl, Nat.le_of_ble_eq_true rfl⟩) rfl rfl rfl rfl (by decide) rfl rfl rfl rfl rfl rfl (Nat.le_of_ble_eq_true rfl) ⟨Nat.zero_le _, Nat.zero_le _⟩ dX12_stand_8 ?_
  refine a_iconst (pc := 11) F dX12_stand_11 kc_1 ?_
  obtain ⟨t3, ht3, hf⟩ := bd_some hf
  refine a_callV (pc := 12) (bs' := [bX12 y a0 t3.2]) (kb := 0) (j := 0) F [0] (c_X12_throwsIf l D y ek n a0 _ _ _ _ ht3) (cwV 2 F.1.2.2.2.2 (gV q7_61 q7_63 qs_52 q1_11 q7_64) rfl rfl rfl (by decide +kernel) ⟨Nat.le_of_ble_eq_true rfl, Nat.le_of_ble_eq_true rfl⟩) rfl rfl rfl rfl (by decide) rfl rfl rfl rfl rfl rfl (Nat.le_of_ble_eq_true rfl) ⟨Nat.zero_le _, Nat.zero_le _⟩ dX12_stand_12 ?_
  refine a_jn 30 (fun (t4 : St) => []) (fun (t4 : St) => []) (fun (t4 : St) => [bX12 y a0 t4]) hf (fun t4 hf => ?_) (fun K4 hK4 hf => ?_)
  · try dsimp only at hf ⊢
    refine a_iconst (pc := 30) F dX12_stand_30 kc_0 ?_
    refine a_goto (pc := 31) (tgt := 41) F dX12_stand_31 (by decide) ?_
    obtain rfl := Option.some.inj hf
    exact hret _ _ _ _ (Nat.zero_le _) (Nat.zero_le _) rfl dX12_stand_41
  · try dsimp only at hf
    refine a_if_ne (pc := 15) (tgt := 30) F dX12_stand_15 (by decide) (fun h => ?_) (fun h => ?_)
    · replace hf := it_neg h hf
      refine a_sub [] rfl ?_
      exact hK4 t3.2 hf
    · replace hf := it_pos h hf
      refine a_aloadn (pc := 18) (j := 0) F dX12_stand_18 rfl rfl ?_
      refine a_iloadn (pc := 19) (j := 2) F dX12_stand_19 rfl rfl ?_
      obtain ⟨t5, ht5, hf⟩ := bd_some hf
      refine a_callS (pc := 20) (bs' := [bX12 y a0 t3.2]) F [] (c_X12_noTilt l D y ek n  _ _ ht5) (va_cwS 1 F.1.2.2.2.2 (gS q8_118 q8_119 q1_11 q8_120) rfl rfl rfl (by decide +kernel) ⟨Nat.le_of_ble_eq_true rfl, Nat.le_of_ble_eq_true rfl⟩) (by decide) rfl rfl rfl rfl rfl rfl (Nat.le_of_ble_eq_true rfl) ⟨Nat.zero_le _, Nat.zero_le _⟩ dX12_stand_20 ?_
      refine a_iconst (pc := 23) F dX12_stand_23 kc_2 ?_
      obtain ⟨t6, ht6, hf⟩ := bd_some hf
      refine a_callV (pc := 24) (bs' := [bX12 y a0 t6.2]) (kb := 0) (j := 0) F [0] (c_X12_throwsIf l D y ek n a0 _ _ _ _ ht6) (cwV 2 F.1.2.2.2.2 (gV q7_61 q7_63 qs_52 q1_11 q7_64) rfl rfl rfl (by decide +kernel) ⟨Nat.le_of_ble_eq_true rfl, Nat.le_of_ble_eq_true rfl⟩) rfl rfl rfl rfl (by decide) rfl rfl rfl rfl rfl rfl (Nat.le_of_ble_eq_true rfl) ⟨Nat.zero_le _, Nat.zero_le _⟩ dX12_stand_24 ?_
      refine a_if_eq (pc := 27) (tgt := 34) F dX12_stand_27 (by decide) (fun h => ?_) (fun h => ?_)
      · replace hf := it_pos h hf
        refine a_aloadn (pc := 34) (j := 0) F dX12_stand_34 rfl rfl ?_
        refine a_iloadn (pc := 35) (j := 1) F dX12_stand_35 rfl rfl ?_
        refine a_iloadn (pc := 36) (j := 2) F dX12_stand_36 rfl rfl ?_
        refine a_iconst (pc := 37) F dX12_stand_37 kc_0 ?_
        obtain ⟨t7, ht7, hf⟩ := bd_some hf
        refine a_callV (pc := 38) (bs' := [bX12 y a0 t6.2]) (kb := 0) (j := 0) F [0] (c_X12_carriedTo l D y ek n a0 _ _ _ _ _ ht7) (cwV 3 F.1.2.2.2.2 (gV q8_121 q8_123 qs_97 q1_11 q8_124) rfl rfl rfl (by decide +kernel) ⟨Nat.le_of_ble_eq_true rfl, Nat.le_of_ble_eq_true rfl⟩) rfl rfl rfl rfl (by decide) rfl rfl rfl rfl rfl rfl (Nat.le_of_ble_eq_true rfl) ⟨Nat.zero_le _, Nat.zero_le _⟩ dX12_stand_38 ?_
        obtain rfl := Option.some.inj hf
        exact hret _ _ _ _ (Nat.zero_le _) (Nat.zero_le _) rfl dX12_stand_41
      · replace hf := it_neg h hf
        refine a_sub [] rfl ?_
        exact hK4 t6.2 hf

abbrev wX12_heave : List Cond := Cond.code yX12_heave cX12_heave 5 (some .int) :: WALL
def m_X12_heave (n : Nat) (v0 : St) (x1 : Int32) (x2 : Int32) (x3 : Int32) : Option (Int32 × St) :=
nm (su v0 0 0 0) (fun u1 =>
bd (m_X12_noPlank n u1 x1) (fun t2 =>
bd (m_X12_throwsIf n u1 t2 1) (fun t3 =>
(if t3.1 = 0 then
bd (m_X12_noTilt n x2) (fun t4 =>
bd (m_X12_throwsIf n t3.2 t4 2) (fun t5 =>
(if t5.1 = 0 then
bd (m_X12_carriedTo n t5.2 x1 x2 1) (fun t6 =>
jn (fun (t7 : Unit) =>
some (t6, t5.2)) (fun (K7 : Unit → Option (Int32 × St)) =>
(if t6 = (-1) then
K7 ()
else
(if x3 = 0 then
K7 ()
else
bd (m_X12_weightOf n t5.2 t6) (fun t8 =>
some (t8, t5.2))))))
else
some (0, t5.2))))
else
some (0, t3.2)))))
set_option maxHeartbeats 4000000 in
set_option maxRecDepth 100000 in
theorem c_X12_heave (l : Launch) (D : va_G) (y : Nat → ClassId) (ek : EK) (n : Nat) (a0 : Nat → Nat) (v0 : St) (x1 : Int32) (x2 : Int32) (x3 : Int32) (res : Int32 × St) (hf : m_X12_heave n v0 x1 x2 x3 = some res) : CI l yX12_heave wX12_heave { frames := 6, cells := 0, slots := 0, locals := 137 } D y ek [.ref (a0 0), .int x1, .int x2, .int x3] [bX12 y a0 v0] (res.1) [bX12 y a0 res.2] 0 0 := by
  unfold m_X12_heave at hf
  refine ci_of (cc := cX12_heave) (maxL := 5) (by decide) rfl rfl (Nat.le_of_ble_eq_true rfl) ?_
  intro p e s m below meth c Q A F hret
  refine a_lv (lv' := [(0, .ref (a0 0)), (1, .int x1), (2, .int x2), (3, .int x3)]) rfl ?_
  refine a_aloadn (pc := 0) (j := 0) F dX12_heave_0 rfl rfl ?_
  refine a_iconst (pc := 1) F dX12_heave_1 kc_0 ?_
  obtain ⟨u1, eu1, hf⟩ := nm_some hf
  refine a_put (pc := 2) (kb := 0) (j := 0) (f := 0) (ty := .int) (bs' := [bX12 y a0 u1]) F iW_X12 rfl rfl rfl (by decide) (tl q6_68) (fun _ h => h) tyX12 tyX12_ok nmX12 rfl rfl rfl rfl (Nat.le_of_ble_eq_true rfl) (by rw [eu1]; rfl) dX12_heave_2 ?_
  refine a_aloadn (pc := 5) (j := 0) F dX12_heave_5 rfl rfl ?_
  refine a_aloadn (pc := 6) (j := 0) F dX12_heave_6 rfl rfl ?_
  refine a_iloadn (pc := 7) (j := 1) F dX12_heave_7 rfl rfl ?_
  obtain ⟨t2, ht2, hf⟩ := bd_some hf
  refine a_callV (pc := 8) (bs' := [bX12 y a0 u1]) (kb := 0) (j := 0) F [0] (c_X12_noPlank l D y ek n a0 _ _ _ ht2) (cwV 1 F.1.2.2.2.2 (gV q7_73 q7_75 qs_53 q1_11 q7_76) rfl rfl rfl (by decide +kernel) ⟨Nat.le_of_ble_eq_true rfl, Nat.le_of_ble_eq_true rfl⟩) rfl rfl rfl rfl (by decide) rfl rfl rfl rfl rfl rfl (Nat.le_of_ble_eq_true rfl) ⟨Nat.zero_le _, Nat.zero_le _⟩ dX12_heave_8 ?_
  refine a_iconst (pc := 11) F dX12_heave_11 kc_1 ?_
  obtain ⟨t3, ht3, hf⟩ := bd_some hf
  refine a_callV (pc := 12) (bs' := [bX12 y a0 t3.2]) (kb := 0) (j := 0) F [0] (c_X12_throwsIf l D y ek n a0 _ _ _ _ ht3) (cwV 2 F.1.2.2.2.2 (gV q7_61 q7_63 qs_52 q1_11 q7_64) rfl rfl rfl (by decide +kernel) ⟨Nat.le_of_ble_eq_true rfl, Nat.le_of_ble_eq_true rfl⟩) rfl rfl rfl rfl (by decide) rfl rfl rfl rfl rfl rfl (Nat.le_of_ble_eq_true rfl) ⟨Nat.zero_le _, Nat.zero_le _⟩ dX12_heave_12 ?_
  refine a_if_ne (pc := 15) (tgt := 30) F dX12_heave_15 (by decide) (fun h => ?_) (fun h => ?_)
  · replace hf := it_neg h hf
    refine a_iconst (pc := 30) F dX12_heave_30 kc_0 ?_
    obtain rfl := Option.some.inj hf
    exact hret _ _ _ _ (Nat.zero_le _) (Nat.zero_le _) rfl dX12_heave_31
  · replace hf := it_pos h hf
    refine a_aloadn (pc := 18) (j := 0) F dX12_heave_18 rfl rfl ?_
    refine a_iloadn (pc := 19) (j := 2) F dX12_heave_19 rfl rfl ?_
    obtain ⟨t4, ht4, hf⟩ := bd_some hf
    refine a_callS (pc := 20) (bs' := [bX12 y a0 t3.2]) F [] (c_X12_noTilt l D y ek n  _ _ ht4) (va_cwS 1 F.1.2.2.2.2 (gS q8_118 q8_119 q1_11 q8_120) rfl rfl rfl (by decide +kernel) ⟨Nat.le_of_ble_eq_true rfl, Nat.le_of_ble_eq_true rfl⟩) (by decide) rfl rfl rfl rfl rfl rfl (Nat.le_of_ble_eq_true rfl) ⟨Nat.zero_le _, Nat.zero_le _⟩ dX12_heave_20 ?_
    refine a_iconst (pc := 23) F dX12_heave_23 kc_2 ?_
    obtain ⟨t5, ht5, hf⟩ := bd_some hf
    refine a_callV (pc := 24) (bs' := [bX12 y a0 t5.2]) (kb := 0) (j := 0) F [0] (c_X12_throwsIf l D y ek n a0 _ _ _ _ ht5) (cwV 2 F.1.2.2.2.2 (gV q7_61 q7_63 qs_52 q1_11 q7_64) rfl rfl rfl (by decide +kernel) ⟨Nat.le_of_ble_eq_true rfl, Nat.le_of_ble_eq_true rfl⟩) rfl rfl rfl rfl (by decide) rfl rfl rfl rfl rfl rfl (Nat.le_of_ble_eq_true rfl) ⟨Nat.zero_le _, Nat.zero_le _⟩ dX12_heave_24 ?_
    refine a_if_eq (pc := 27) (tgt := 32) F dX12_heave_27 (by decide) (fun h => ?_) (fun h => ?_)
    · replace hf := it_pos h hf
      refine a_aloadn (pc := 32) (j := 0) F dX12_heave_32 rfl rfl ?_
      refine a_iloadn (pc := 33) (j := 1) F dX12_heave_33 rfl rfl ?_
      refine a_iloadn (pc := 34) (j := 2) F dX12_heave_34 rfl rfl ?_
      refine a_iconst (pc := 35) F dX12_heave_35 kc_1 ?_
      obtain ⟨t6, ht6, hf⟩ := bd_some hf
      refine a_callV (pc := 36) (bs' := [bX12 y a0 t5.2]) (kb := 0) (j := 0) F [0] (c_X12_carriedTo l D y ek n a0 _ _ _ _ _ ht6) (cwV 3 F.1.2.2.2.2 (gV q8_121 q8_123 qs_97 q1_11 q8_124) rfl rfl rfl (by decide +kernel) ⟨Nat.le_of_ble_eq_true rfl, Nat.le_of_ble_eq_true rfl⟩) rfl rfl rfl rfl (by decide) rfl rfl rfl rfl rfl rfl (Nat.le_of_ble_eq_true rfl) ⟨Nat.zero_le _, Nat.zero_le _⟩ dX12_heave_36 ?_
      refine a_istore (pc := 39) (lv' := [(0, .ref (a0 0)), (1, .int x1), (2, .int x2), (3, .int x3), (4, .int t6)]) F [1, 2, 3, 4, 0] dX12_heave_39 (by decide) rfl ?_
      refine a_iload (pc := 41) (j := 4) F dX12_heave_41 rfl ?_
      refine a_iconst (pc := 43) F dX12_heave_43 kc_m1 ?_
      refine a_jn 51 (fun (t7 : Unit) => [(4, .int t6)]) (fun (t7 : Unit) => []) (fun (t7 : Unit) => [bX12 y a0 t5.2]) hf (fun t7 hf => ?_) (fun K7 hK7 hf => ?_)
      · try dsimp only at hf ⊢
        refine a_iload (pc := 51) (j := 0) F dX12_heave_51 rfl ?_
        refine a_goto (pc := 53) (tgt := 62) F dX12_heave_53 (by decide) ?_
        obtain rfl := Option.some.inj hf
        exact hret _ _ _ _ (Nat.zero_le _) (Nat.zero_le _) rfl dX12_heave_62
      · try dsimp only at hf
        refine a_icmp_eq (pc := 44) (tgt := 51) F dX12_heave_44 (by decide) (fun h => ?_) (fun h => ?_)
        · replace hf := it_pos h hf
          refine a_sub [4] rfl ?_
          exact hK7 () hf
        · replace hf := it_neg h hf
          refine a_iloadn (pc := 47) (j := 3) F dX12_heave_47 rfl rfl ?_
          refine a_if_ne (pc := 48) (tgt := 56) F dX12_heave_48 (by decide) (fun h => ?_) (fun h => ?_)
          · replace hf := it_neg h hf
            refine a_aloadn (pc := 56) (j := 0) F dX12_heave_56 rfl rfl ?_
            refine a_iload (pc := 57) (j := 4) F dX12_heave_57 rfl ?_
            obtain ⟨t8, ht8, hf⟩ := bd_some hf
            refine a_callV (pc := 59) (bs' := [bX12 y a0 t5.2]) (kb := 0) (j := 0) F [0] (c_X12_weightOf l D y ek n a0 _ _ _ ht8) (cwV 1 F.1.2.2.2.2 (gV q7_104 q7_106 qs_60 q1_11 q7_107) rfl rfl rfl (by decide +kernel) ⟨Nat.le_of_ble_eq_true rfl, Nat.le_of_ble_eq_true rfl⟩) rfl rfl rfl rfl (by decide) rfl rfl rfl rfl rfl rfl (Nat.le_of_ble_eq_true rfl) ⟨Nat.zero_le _, Nat.zero_le _⟩ dX12_heave_59 ?_
            obtain rfl := Option.some.inj hf
            exact hret _ _ _ _ (Nat.zero_le _) (Nat.zero_le _) rfl dX12_heave_62
          · replace hf := it_pos h hf
            refine a_sub [4] rfl ?_
            exact hK7 () hf
    · replace hf := it_neg h hf
      refine a_iconst (pc := 30) F dX12_heave_30 kc_0 ?_
      obtain rfl := Option.some.inj hf
      exact hret _ _ _ _ (Nat.zero_le _) (Nat.zero_le _) rfl dX12_heave_31

abbrev wJ6_numberOfTrailingZeros_0f7a4 : List Cond := Cond.code yJ6_numberOfTrailingZeros_0f7a4 cJ6_numberOfTrailingZeros_0f7a4 2 (some .int) :: WALL
def m_J6_numberOfTrailingZeros_0f7a4 (n : Nat) (x0 : Int32) : Option (Int32) :=
nm ((x0 ^^^ (-1)) &&& (x0 - 1)) (fun x0_1 =>
(if 0 < x0_1 then
bd ((if x0_1 ≤ 65536 then
some (x0_1, 1)
else
nm (x_ushr x0_1 16) (fun x0_9 =>
some (x0_9, (1 + 16))))) (fun (t2 : Int32 × Int32) =>
bd ((if t2.1 ≤ 256 then
some (t2.1, t2.2)
else
nm (x_ushr t2.1 8) (fun x0_8 =>
some (x0_8, (t2.2 + 8))))) (fun (t3 : Int32 × Int32) =>
bd ((if t3.1 ≤ 16 then
some (t3.1, t3.2)
else
nm (x_ushr t3.1 4) (fun x0_7 =>
some (x0_7, (t3.2 + 4))))) (fun (t4 : Int32 × Int32) =>
bd ((if t4.1 ≤ 4 then
some (t4.1, t4.2)
else
nm (x_ushr t4.1 2) (fun x0_6 =>
some (x0_6, (t4.2 + 2))))) (fun (t5 : Int32 × Int32) =>
some (t5.2 + (x_ushr t5.1 1))))))
else
some (x0_1 &&& 32)))
set_option maxHeartbeats 4000000 in
set_option maxRecDepth 100000 in
theorem c_J6_numberOfTrailingZeros_0f7a4 (l : Launch) (D : va_G) (y : Nat → ClassId) (ek : EK) (n : Nat) (x0 : Int32) (res : Int32) (hf : m_J6_numberOfTrailingZeros_0f7a4 n x0 = some res) : CI l yJ6_numberOfTrailingZeros_0f7a4 wJ6_numberOfTrailingZeros_0f7a4 { frames := 0, cells := 0, slots := 0, locals := 0 } D y ek [.int x0] [] (res) [] 0 0 := by
  unfold m_J6_numberOfTrailingZeros_0f7a4 at hf
  refine ci_of (cc := cJ6_numberOfTrailingZeros_0f7a4) (maxL := 2) (by decide) rfl rfl (Nat.le_of_ble_eq_true rfl) ?_
  intro p e s m below meth c Q A F hret
  refine a_lv (lv' := [(0, .int x0)]) rfl ?_
  refine a_iloadn (pc := 0) (j := 0) F dJ6_numberOfTrailingZeros_0f7a4_0 rfl rfl ?_
  refine a_iconst (pc := 1) F dJ6_numberOfTrailingZeros_0f7a4_1 kc_m1 ?_
  refine a_ixor (pc := 2) F dJ6_numberOfTrailingZeros_0f7a4_2 ?_
  refine a_iloadn (pc := 3) (j := 0) F dJ6_numberOfTrailingZeros_0f7a4_3 rfl rfl ?_
  refine a_iconst (pc := 4) F dJ6_numberOfTrailingZeros_0f7a4_4 kc_1 ?_
  refine a_isub (pc := 5) F dJ6_numberOfTrailingZeros_0f7a4_5 ?_
  refine a_iand (pc := 6) F dJ6_numberOfTrailingZeros_0f7a4_6 ?_
  obtain ⟨x0_1, ex0_1, hf⟩ := nm_some hf
  refine a_nmi ex0_1 ?_
  refine a_istoren (pc := 7) (lv' := [(0, .int x0_1)]) F [0] dJ6_numberOfTrailingZeros_0f7a4_7 rfl (by decide) rfl ?_
  refine a_iloadn (pc := 8) (j := 0) F dJ6_numberOfTrailingZeros_0f7a4_8 rfl rfl ?_
  refine a_if_gt (pc := 9) (tgt := 17) F dJ6_numberOfTrailingZeros_0f7a4_9 (by decide) (fun h => ?_) (fun h => ?_)
  · replace hf := it_pos h hf
    refine a_iconst (pc := 17) F dJ6_numberOfTrailingZeros_0f7a4_17 kc_1 ?_
    refine a_istoren (pc := 18) (lv' := [(0, .int x0_1), (1, .int 1)]) F [1, 0] dJ6_numberOfTrailingZeros_0f7a4_18 rfl (by decide) rfl ?_
    refine a_iloadn (pc := 19) (j := 0) F dJ6_numberOfTrailingZeros_0f7a4_19 rfl rfl ?_
    refine a_ldcw (pc := 20) (v := 65536) F (tl q8_144) dJ6_numberOfTrailingZeros_0f7a4_20 ?_
    refine a_join 34 (fun (t2 : Int32 × Int32) => [(0, .int t2.1), (1, .int t2.2)]) (fun (t2 : Int32 × Int32) => []) (fun (t2 : Int32 × Int32) => []) hf (fun t2 hf => ?_) (fun t2 hf J2 => ?_)
    · try dsimp only at hf ⊢
      refine a_iloadn (pc := 34) (j := 0) F dJ6_numberOfTrailingZeros_0f7a4_34 rfl rfl ?_
      refine a_sipush (pc := 35) F dJ6_numberOfTrailingZeros_0f7a4_35 ks_256 ?_
      refine a_join 49 (fun (t3 : Int32 × Int32) => [(0, .int t3.1), (1, .int t3.2)]) (fun (t3 : Int32 × Int32) => []) (fun (t3 : Int32 × Int32) => []) hf (fun t3 hf => ?_) (fun t3 hf J3 => ?_)
      · try dsimp only at hf ⊢
        refine a_iloadn (pc := 49) (j := 0) F dJ6_numberOfTrailingZeros_0f7a4_49 rfl rfl ?_
        refine a_bipush (pc := 50) F dJ6_numberOfTrailingZeros_0f7a4_50 kb_16 ?_
        refine a_join 62 (fun (t4 : Int32 × Int32) => [(0, .int t4.1), (1, .int t4.2)]) (fun (t4 : Int32 × Int32) => []) (fun (t4 : Int32 × Int32) => []) hf (fun t4 hf => ?_) (fun t4 hf J4 => ?_)
        · try dsimp only at hf ⊢
          refine a_iloadn (pc := 62) (j := 0) F dJ6_numberOfTrailingZeros_0f7a4_62 rfl rfl ?_
          refine a_iconst (pc := 63) F dJ6_numberOfTrailingZeros_0f7a4_63 kc_4 ?_
          refine a_join 74 (fun (t5 : Int32 × Int32) => [(0, .int t5.1), (1, .int t5.2)]) (fun (t5 : Int32 × Int32) => []) (fun (t5 : Int32 × Int32) => []) hf (fun t5 hf => ?_) (fun t5 hf J5 => ?_)
          · try dsimp only at hf ⊢
            refine a_iloadn (pc := 74) (j := 1) F dJ6_numberOfTrailingZeros_0f7a4_74 rfl rfl ?_
            refine a_iloadn (pc := 75) (j := 0) F dJ6_numberOfTrailingZeros_0f7a4_75 rfl rfl ?_
            refine a_iconst (pc := 76) F dJ6_numberOfTrailingZeros_0f7a4_76 kc_1 ?_
            refine a_iushr (pc := 77) F dJ6_numberOfTrailingZeros_0f7a4_77 ?_
            refine a_iadd (pc := 78) F dJ6_numberOfTrailingZeros_0f7a4_78 ?_
            obtain rfl := Option.some.inj hf
            exact hret _ _ _ _ (Nat.zero_le _) (Nat.zero_le _) rfl dJ6_numberOfTrailingZeros_0f7a4_79
          · refine a_icmp_le (pc := 64) (tgt := 74) F dJ6_numberOfTrailingZeros_0f7a4_64 (by decide) (fun h => ?_) (fun h => ?_)
            · replace hf := it_pos h hf
              obtain rfl := Option.some.inj hf
              exact J5
            · replace hf := it_neg h hf
              refine a_iinc (pc := 67) (j := 1) (v := (t4.2 + 2)) (lv' := [(0, .int t4.1), (1, .int (t4.2 + 2))]) F [1, 0] dJ6_numberOfTrailingZeros_0f7a4_67 rfl ki_2 (by decide) rfl ?_
              refine a_iloadn (pc := 70) (j := 0) F dJ6_numberOfTrailingZeros_0f7a4_70 rfl rfl ?_
              refine a_iconst (pc := 71) F dJ6_numberOfTrailingZeros_0f7a4_71 kc_2 ?_
              refine a_iushr (pc := 72) F dJ6_numberOfTrailingZeros_0f7a4_72 ?_
              obtain ⟨x0_6, ex0_6, hf⟩ := nm_some hf
              refine a_nmi ex0_6 ?_
              refine a_istoren (pc := 73) (lv' := [(0, .int x0_6), (1, .int (t4.2 + 2))]) F [0, 1] dJ6_numberOfTrailingZeros_0f7a4_73 rfl (by decide) rfl ?_
              obtain rfl := Option.some.inj hf
              exact J5
        · refine a_icmp_le (pc := 52) (tgt := 62) F dJ6_numberOfTrailingZeros_0f7a4_52 (by decide) (fun h => ?_) (fun h => ?_)
          · replace hf := it_pos h hf
            obtain rfl := Option.some.inj hf
            exact J4
          · replace hf := it_neg h hf
            refine a_iinc (pc := 55) (j := 1) (v := (t3.2 + 4)) (lv' := [(0, .int t3.1), (1, .int (t3.2 + 4))]) F [1, 0] dJ6_numberOfTrailingZeros_0f7a4_55 rfl ki_4 (by decide) rfl ?_
            refine a_iloadn (pc := 58) (j := 0) F dJ6_numberOfTrailingZeros_0f7a4_58 rfl rfl ?_
            refine a_iconst (pc := 59) F dJ6_numberOfTrailingZeros_0f7a4_59 kc_4 ?_
            refine a_iushr (pc := 60) F dJ6_numberOfTrailingZeros_0f7a4_60 ?_
            obtain ⟨x0_7, ex0_7, hf⟩ := nm_some hf
            refine a_nmi ex0_7 ?_
            refine a_istoren (pc := 61) (lv' := [(0, .int x0_7), (1, .int (t3.2 + 4))]) F [0, 1] dJ6_numberOfTrailingZeros_0f7a4_61 rfl (by decide) rfl ?_
            obtain rfl := Option.some.inj hf
            exact J4
      · refine a_icmp_le (pc := 38) (tgt := 49) F dJ6_numberOfTrailingZeros_0f7a4_38 (by decide) (fun h => ?_) (fun h => ?_)
        · replace hf := it_pos h hf
          obtain rfl := Option.some.inj hf
          exact J3
        · replace hf := it_neg h hf
          refine a_iinc (pc := 41) (j := 1) (v := (t2.2 + 8)) (lv' := [(0, .int t2.1), (1, .int (t2.2 + 8))]) F [1, 0] dJ6_numberOfTrailingZeros_0f7a4_41 rfl ki_8 (by decide) rfl ?_
          refine a_iloadn (pc := 44) (j := 0) F dJ6_numberOfTrailingZeros_0f7a4_44 rfl rfl ?_
          refine a_bipush (pc := 45) F dJ6_numberOfTrailingZeros_0f7a4_45 kb_8 ?_
          refine a_iushr (pc := 47) F dJ6_numberOfTrailingZeros_0f7a4_47 ?_
          obtain ⟨x0_8, ex0_8, hf⟩ := nm_some hf
          refine a_nmi ex0_8 ?_
          refine a_istoren (pc := 48) (lv' := [(0, .int x0_8), (1, .int (t2.2 + 8))]) F [0, 1] dJ6_numberOfTrailingZeros_0f7a4_48 rfl (by decide) rfl ?_
          obtain rfl := Option.some.inj hf
          exact J3
    · refine a_icmp_le (pc := 23) (tgt := 34) F dJ6_numberOfTrailingZeros_0f7a4_23 (by decide) (fun h => ?_) (fun h => ?_)
      · replace hf := it_pos h hf
        obtain rfl := Option.some.inj hf
        exact J2
      · replace hf := it_neg h hf
        refine a_iinc (pc := 26) (j := 1) (v := (1 + 16)) (lv' := [(0, .int x0_1), (1, .int (1 + 16))]) F [1, 0] dJ6_numberOfTrailingZeros_0f7a4_26 rfl ki_16 (by decide) rfl ?_
        refine a_iloadn (pc := 29) (j := 0) F dJ6_numberOfTrailingZeros_0f7a4_29 rfl rfl ?_
        refine a_bipush (pc := 30) F dJ6_numberOfTrailingZeros_0f7a4_30 kb_16 ?_
        refine a_iushr (pc := 32) F dJ6_numberOfTrailingZeros_0f7a4_32 ?_
        obtain ⟨x0_9, ex0_9, hf⟩ := nm_some hf
        refine a_nmi ex0_9 ?_
        refine a_istoren (pc := 33) (lv' := [(0, .int x0_9), (1, .int (1 + 16))]) F [0, 1] dJ6_numberOfTrailingZeros_0f7a4_33 rfl (by decide) rfl ?_
        obtain rfl := Option.some.inj hf
        exact J2
  · replace hf := it_neg h hf
    refine a_iloadn (pc := 12) (j := 0) F dJ6_numberOfTrailingZeros_0f7a4_12 rfl rfl ?_
    refine a_bipush (pc := 13) F dJ6_numberOfTrailingZeros_0f7a4_13 kb_32 ?_
    refine a_iand (pc := 15) F dJ6_numberOfTrailingZeros_0f7a4_15 ?_
    obtain rfl := Option.some.inj hf
    exact hret _ _ _ _ (Nat.zero_le _) (Nat.zero_le _) rfl dJ6_numberOfTrailingZeros_0f7a4_16

abbrev wX12_leastOf : List Cond := Cond.code yX12_leastOf cX12_leastOf 1 (some .int) :: WALL
def m_X12_leastOf (n : Nat) (x0 : Int32) : Option (Int32) :=
bd (m_J6_numberOfTrailingZeros_0f7a4 n x0) (fun t1 =>
some t1)
set_option maxHeartbeats 4000000 in
set_option maxRecDepth 100000 in
theorem c_X12_leastOf (l : Launch) (D : va_G) (y : Nat → ClassId) (ek : EK) (n : Nat) (x0 : Int32) (res : Int32) (hf : m_X12_leastOf n x0 = some res) : CI l yX12_leastOf wX12_leastOf { frames := 1, cells := 0, slots := 0, locals := 21 } D y ek [.int x0] [] (res) [] 0 0 := by
  unfold m_X12_leastOf at hf
  refine ci_of (cc := cX12_leastOf) (maxL := 1) (by decide) rfl rfl (Nat.le_of_ble_eq_true rfl) ?_
  intro p e s m below meth c Q A F hret
  refine a_lv (lv' := [(0, .int x0)]) rfl ?_
  refine a_iloadn (pc := 0) (j := 0) F dX12_leastOf_0 rfl rfl ?_
  obtain ⟨t1, ht1, hf⟩ := bd_some hf
  refine a_callS (pc := 1) (bs' := []) F [] (c_J6_numberOfTrailingZeros_0f7a4 l D y ek n  _ _ ht1) (va_cwS 1 F.1.2.2.2.2 (gS q8_141 q8_142 q1_26 q8_143) rfl rfl rfl (by decide +kernel) ⟨Nat.le_of_ble_eq_true rfl, Nat.le_of_ble_eq_true rfl⟩) (by decide) rfl rfl rfl rfl rfl rfl (Nat.le_of_ble_eq_true rfl) ⟨Nat.zero_le _, Nat.zero_le _⟩ dX12_leastOf_1 ?_
  obtain rfl := Option.some.inj hf
  exact hret _ _ _ _ (Nat.zero_le _) (Nat.zero_le _) rfl dX12_leastOf_4

abbrev wX12_differBy : List Cond := Cond.code yX12_differBy cX12_differBy 4 (some .int) :: WALL
def m_X12_differBy (n : Nat) (v0 : St) (x1 : Int32) (x2 : Int32) (x3 : Int32) : Option (Int32) :=
bd (m_X12_loadOf n v0 x2) (fun t1 =>
bd (m_X12_loadOf n v0 x3) (fun t2 =>
(if ix ((x1 &&& ((x_shl 1 x2) ^^^ (-1))) &&& ((x_shl 1 x3) ^^^ (-1))) 1024 then some ((x_abs (t1 - t2)) + (v0 18 (((x1 &&& ((x_shl 1 x2) ^^^ (-1))) &&& ((x_shl 1 x3) ^^^ (-1)))).toNatClampNeg)) else none)))
set_option maxHeartbeats 4000000 in
set_option maxRecDepth 100000 in
theorem c_X12_differBy (l : Launch) (D : va_G) (y : Nat → ClassId) (ek : EK) (n : Nat) (a0 : Nat → Nat) (v0 : St) (x1 : Int32) (x2 : Int32) (x3 : Int32) (res : Int32) (hf : m_X12_differBy n v0 x1 x2 x3 = some res) : CI l yX12_differBy wX12_differBy { frames := 4, cells := 0, slots := 0, locals := 87 } D y ek [.ref (a0 0), .int x1, .int x2, .int x3] [bX12 y a0 v0] (res) [bX12 y a0 v0] 0 0 := by
  unfold m_X12_differBy at hf
  refine ci_of (cc := cX12_differBy) (maxL := 4) (by decide) rfl rfl (Nat.le_of_ble_eq_true rfl) ?_
  intro p e s m below meth c Q A F hret
  refine a_lv (lv' := [(0, .ref (a0 0)), (1, .int x1), (2, .int x2), (3, .int x3)]) rfl ?_
  refine a_aloadn (pc := 0) (j := 0) F dX12_differBy_0 rfl rfl ?_
  refine a_iloadn (pc := 1) (j := 2) F dX12_differBy_1 rfl rfl ?_
  obtain ⟨t1, ht1, hf⟩ := bd_some hf
  refine a_callV (pc := 2) (bs' := [bX12 y a0 v0]) (kb := 0) (j := 0) F [0] (c_X12_loadOf l D y ek n a0 _ _ _ ht1) (cwV 1 F.1.2.2.2.2 (gV q7_92 q7_94 qs_57 q1_11 q7_95) rfl rfl rfl (by decide +kernel) ⟨Nat.le_of_ble_eq_true rfl, Nat.le_of_ble_eq_true rfl⟩) rfl rfl rfl rfl (by decide) rfl rfl rfl rfl rfl rfl (Nat.le_of_ble_eq_true rfl) ⟨Nat.zero_le _, Nat.zero_le _⟩ dX12_differBy_2 ?_
  refine a_aloadn (pc := 5) (j := 0) F dX12_differBy_5 rfl rfl ?_
  refine a_iloadn (pc := 6) (j := 3) F dX12_differBy_6 rfl rfl ?_
  obtain ⟨t2, ht2, hf⟩ := bd_some hf
  refine a_callV (pc := 7) (bs' := [bX12 y a0 v0]) (kb := 0) (j := 0) F [0] (c_X12_loadOf l D y ek n a0 _ _ _ ht2) (cwV 1 F.1.2.2.2.2 (gV q7_92 q7_94 qs_57 q1_11 q7_95) rfl rfl rfl (by decide +kernel) ⟨Nat.le_of_ble_eq_true rfl, Nat.le_of_ble_eq_true rfl⟩) rfl rfl rfl rfl (by decide) rfl rfl rfl rfl rfl rfl (Nat.le_of_ble_eq_true rfl) ⟨Nat.zero_le _, Nat.zero_le _⟩ dX12_differBy_7 ?_
  refine a_isub (pc := 10) F dX12_differBy_10 ?_
  refine a_mabs (pc := 11) F (tl q8_109) (tl q5_78) (tl q1_22) (tl q_math_abs) (Nat.le_of_ble_eq_true rfl) (Nat.le_of_ble_eq_true rfl) (Nat.zero_le _) (Nat.zero_le _) dX12_differBy_11 ?_
  refine a_aloadn (pc := 14) (j := 0) F dX12_differBy_14 rfl rfl ?_
  refine a_get (pc := 15) (kb := 0) (j := 0) (f := 18) F iW_X12 rfl rfl rfl (by decide) (tl q6_86) (fun _ h => h) rfl dX12_differBy_15 ?_
  refine a_iloadn (pc := 18) (j := 1) F dX12_differBy_18 rfl rfl ?_
  refine a_iconst (pc := 19) F dX12_differBy_19 kc_1 ?_
  refine a_iloadn (pc := 20) (j := 2) F dX12_differBy_20 rfl rfl ?_
  refine a_ishl (pc := 21) F dX12_differBy_21 ?_
  refine a_iconst (pc := 22) F dX12_differBy_22 kc_m1 ?_
  refine a_ixor (pc := 23) F dX12_differBy_23 ?_
  refine a_iand (pc := 24) F dX12_differBy_24 ?_
  refine a_iconst (pc := 25) F dX12_differBy_25 kc_1 ?_
  refine a_iloadn (pc := 26) (j := 3) F dX12_differBy_26 rfl rfl ?_
  refine a_ishl (pc := 27) F dX12_differBy_27 ?_
  refine a_iconst (pc := 28) F dX12_differBy_28 kc_m1 ?_
  refine a_ixor (pc := 29) F dX12_differBy_29 ?_
  refine a_iand (pc := 30) F dX12_differBy_30 ?_
  obtain ⟨h3, hf⟩ := gd_some hf
  refine a_iald (pc := 31) (kb := 0) (j := 9) F rfl rfl h3 dX12_differBy_31 ?_
  refine a_iadd (pc := 32) F dX12_differBy_32 ?_
  obtain rfl := Option.some.inj hf
  exact hret _ _ _ _ (Nat.zero_le _) (Nat.zero_le _) rfl dX12_differBy_33

abbrev wX12_laysDiffer : List Cond := Cond.code yX12_laysDiffer cX12_laysDiffer 6 none :: WALL
def m_X12_laysDiffer (n : Nat) (v0 : St) (x1 : Int32) : Option (St) :=
nm (su v0 18 0 0) (fun u1 =>
lp (fun (rc2 : Int32 × St → Option (St)) (x2l : Int32 × St) =>
(if x1 < x2l.1 then
some x2l.2
else
bd ((if (x2l.1 &&& (x1 ^^^ (-1))) = 0 then
bd (m_J6_bitCount_0f7a4 n x2l.1) (fun t4 =>
(if (x_rem t4 2) = 1 then
some x2l.2
else
bd (m_X12_leastOf n x2l.1) (fun t5 =>
nm (t5 + 1) (fun x5_6 =>
bd (lp (fun (rc10 : Int32 × Int32 → Option (Int32)) (x10l : Int32 × Int32) =>
(if 10 ≤ x10l.2 then
some x10l.1
else
bd (m_X12_holds n x2l.1 x10l.2) (fun t11 =>
bd ((if t11 = 0 then
some x10l.1
else
bd (m_X12_differBy n x2l.2 x2l.1 t5 x10l.2) (fun t13 =>
nm (x_min x10l.1 t13) (fun x4_14 =>
some x4_14)))) (fun (t12 : Int32) =>
rc10 (t12, (x10l.2 + 1)))))) n (1000000, x5_6)) (fun (t7 : Int32) =>
(if ix x2l.1 1024 then nm (su x2l.2 18 (x2l.1).toNatClampNeg t7) (fun u9 =>
some u9) else none))))))
else
some x2l.2)) (fun (t3 : St) =>
rc2 ((x2l.1 + 1), t3)))) n (1, u1))
set_option maxHeartbeats 4000000 in
set_option maxRecDepth 100000 in
theorem c_X12_laysDiffer (l : Launch) (D : va_G) (y : Nat → ClassId) (ek : EK) (n : Nat) (a0 : Nat → Nat) (v0 : St) (x1 : Int32) (res : St) (hf : m_X12_laysDiffer n v0 x1 = some res) : CV l yX12_laysDiffer wX12_laysDiffer { frames := 5, cells := 0, slots := 0, locals := 110 } D y ek [.ref (a0 0), .int x1] [bX12 y a0 v0] [bX12 y a0 res] 0 0 := by
  unfold m_X12_laysDiffer at hf
  refine cv_of (cc := cX12_laysDiffer) (maxL := 6) (by decide) rfl rfl (Nat.le_of_ble_eq_true rfl) ?_
  intro p e s m below meth c Q A F hret
  refine a_lv (lv' := [(0, .ref (a0 0)), (1, .int x1)]) rfl ?_
  refine a_aloadn (pc := 0) (j := 0) F dX12_laysDiffer_0 rfl rfl ?_
  refine a_get (pc := 1) (kb := 0) (j := 0) (f := 18) F iW_X12 rfl rfl rfl (by decide) (tl q6_86) (fun _ h => h) rfl dX12_laysDiffer_1 ?_
  refine a_iconst (pc := 4) F dX12_laysDiffer_4 kc_0 ?_
  refine a_iconst (pc := 5) F dX12_laysDiffer_5 kc_0 ?_
  obtain ⟨u1, eu1, hf⟩ := nm_some hf
  refine a_iastc (pc := 6) (kb := 0) (j := 9) (k := 0) (bs' := [bX12 y a0 u1]) F rfl rfl (by decide) (by decide) (by rw [eu1]; rfl) dX12_laysDiffer_6 ?_
  refine a_iconst (pc := 7) F dX12_laysDiffer_7 kc_1 ?_
  refine a_istoren (pc := 8) (lv' := [(0, .ref (a0 0)), (1, .int x1), (2, .int 1)]) F [1, 2, 0] dX12_laysDiffer_8 rfl (by decide) rfl ?_
  refine a_loop 9 (fun (x2l : Int32 × St) => [(0, .ref (a0 0)), (1, .int x1), (2, .int x2l.1)]) (fun (x2l : Int32 × St) => [bX12 y a0 x2l.2]) (fun rc2 x2l ih2 hf => ?_) hf rfl rfl
  try dsimp only at hf ⊢
  refine a_iloadn (pc := 9) (j := 2) F dX12_laysDiffer_9 rfl rfl ?_
  refine a_iloadn (pc := 10) (j := 1) F dX12_laysDiffer_10 rfl rfl ?_
  refine a_icmp_gt (pc := 11) (tgt := 101) F dX12_laysDiffer_11 (by decide) (fun h => ?_) (fun h => ?_)
  · replace hf := it_pos h hf
    obtain rfl := Option.some.inj hf
    exact hret _ _ _ _ (Nat.zero_le _) (Nat.zero_le _) dX12_laysDiffer_101
  · replace hf := it_neg h hf
    refine a_iloadn (pc := 14) (j := 2) F dX12_laysDiffer_14 rfl rfl ?_
    refine a_iloadn (pc := 15) (j := 1) F dX12_laysDiffer_15 rfl rfl ?_
    refine a_iconst (pc := 16) F dX12_laysDiffer_16 kc_m1 ?_
    refine a_ixor (pc := 17) F dX12_laysDiffer_17 ?_
    refine a_iand (pc := 18) F dX12_laysDiffer_18 ?_
    refine a_join 95 (fun (t3 : St) => [(0, .ref (a0 0)), (1, .int x1), (2, .int x2l.1)]) (fun (t3 : St) => []) (fun (t3 : St) => [bX12 y a0 t3]) hf (fun t3 hf => ?_) (fun t3 hf J3 => ?_)
    · try dsimp only at hf ⊢
      refine a_iinc (pc := 95) (j := 2) (v := (x2l.1 + 1)) (lv' := [(0, .ref (a0 0)), (1, .int x1), (2, .int (x2l.1 + 1))]) F [1, 2, 0] dX12_laysDiffer_95 rfl ki_1 (by decide) rfl ?_
      refine a_goto (pc := 98) (tgt := 9) F dX12_laysDiffer_98 (by decide) ?_
      exact ih2 ((x2l.1 + 1), t3) hf
    · refine a_if_ne (pc := 19) (tgt := 95) F dX12_laysDiffer_19 (by decide) (fun h => ?_) (fun h => ?_)
      · replace hf := it_neg h hf
        obtain rfl := Option.some.inj hf
        exact J3
      · replace hf := it_pos h hf
        refine a_iloadn (pc := 22) (j := 2) F dX12_laysDiffer_22 rfl rfl ?_
        obtain ⟨t4, ht4, hf⟩ := bd_some hf
        refine a_callS (pc := 23) (bs' := [bX12 y a0 x2l.2]) F [] (c_J6_bitCount_0f7a4 l D y ek n  _ _ ht4) (va_cwS 1 F.1.2.2.2.2 (gS q8_23 q5_100 q1_26 q5_101) rfl rfl rfl (by decide +kernel) ⟨Nat.le_of_ble_eq_true rfl, Nat.le_of_ble_eq_true rfl⟩) (by decide) rfl rfl rfl rfl rfl rfl (Nat.le_of_ble_eq_true rfl) ⟨Nat.zero_le _, Nat.zero_le _⟩ dX12_laysDiffer_23 ?_
        refine a_iconst (pc := 26) F dX12_laysDiffer_26 kc_2 ?_
        refine a_irem (pc := 27) F dX12_laysDiffer_27 (by decide) ?_
        refine a_iconst (pc := 28) F dX12_laysDiffer_28 kc_1 ?_
        refine a_icmp_ne (pc := 29) (tgt := 35) F dX12_laysDiffer_29 (by decide) (fun h => ?_) (fun h => ?_)
        · replace hf := it_neg h hf
          refine a_iloadn (pc := 35) (j := 2) F dX12_laysDiffer_35 rfl rfl ?_
          obtain ⟨t5, ht5, hf⟩ := bd_some hf
          refine a_callS (pc := 36) (bs' := [bX12 y a0 x2l.2]) F [] (c_X12_leastOf l D y ek n  _ _ ht5) (va_cwS 1 F.1.2.2.2.2 (gS q8_138 q8_139 q1_11 q8_140) rfl rfl rfl (by decide +kernel) ⟨Nat.le_of_ble_eq_true rfl, Nat.le_of_ble_eq_true rfl⟩) (by decide) rfl rfl rfl rfl rfl rfl (Nat.le_of_ble_eq_true rfl) ⟨Nat.zero_le _, Nat.zero_le _⟩ dX12_laysDiffer_36 ?_
          refine a_istoren (pc := 39) (lv' := [(0, .ref (a0 0)), (1, .int x1), (2, .int x2l.1), (3, .int t5)]) F [1, 2, 3, 0] dX12_laysDiffer_39 rfl (by decide) rfl ?_
          refine a_ldcw (pc := 40) (v := 1000000) F (tl q8_125) dX12_laysDiffer_40 ?_
          refine a_istore (pc := 43) (lv' := [(0, .ref (a0 0)), (1, .int x1), (2, .int x2l.1), (3, .int t5), (4, .int 1000000)]) F [1, 2, 3, 4, 0] dX12_laysDiffer_43 (by decide) rfl ?_
          refine a_iloadn (pc := 45) (j := 3) F dX12_laysDiffer_45 rfl rfl ?_
          refine a_iconst (pc := 46) F dX12_laysDiffer_46 kc_1 ?_
          refine a_iadd (pc := 47) F dX12_laysDiffer_47 ?_
          obtain ⟨x5_6, ex5_6, hf⟩ := nm_some hf
          refine a_nmi ex5_6 ?_
          refine a_istore (pc := 48) (lv' := [(0, .ref (a0 0)), (1, .int x1), (2, .int x2l.1), (3, .int t5), (4, .int 1000000), (5, .int x5_6)]) F [1, 2, 3, 4, 5, 0] dX12_laysDiffer_48 (by decide) rfl ?_
          refine a_join 87 (fun (t7 : Int32) => [(0, .ref (a0 0)), (1, .int x1), (2, .int x2l.1), (4, .int t7)]) (fun (t7 : Int32) => []) (fun (t7 : Int32) => [bX12 y a0 x2l.2]) hf (fun t7 hf => ?_) (fun t7 hf J7 => ?_)
          · try dsimp only at hf ⊢
            refine a_aloadn (pc := 87) (j := 0) F dX12_laysDiffer_87 rfl rfl ?_
            refine a_get (pc := 88) (kb := 0) (j := 0) (f := 18) F iW_X12 rfl rfl rfl (by decide) (tl q6_86) (fun _ h => h) rfl dX12_laysDiffer_88 ?_
            refine a_iloadn (pc := 91) (j := 2) F dX12_laysDiffer_91 rfl rfl ?_
            refine a_iload (pc := 92) (j := 3) F dX12_laysDiffer_92 rfl ?_
            obtain ⟨h8, hf⟩ := gd_some hf
            obtain ⟨u9, eu9, hf⟩ := nm_some hf
            refine a_iast (pc := 94) (kb := 0) (j := 9) (bs' := [bX12 y a0 u9]) F rfl rfl h8 (by rw [eu9]; rfl) dX12_laysDiffer_94 ?_
            refine a_sub [0, 1, 2] rfl ?_
            obtain rfl := Option.some.inj hf
            exact J3
          · refine a_loop 50 (fun (x10l : Int32 × Int32) => [(0, .ref (a0 0)), (1, .int x1), (2, .int x2l.1), (3, .int t5), (4, .int x10l.1), (5, .int x10l.2)]) (fun (x10l : Int32 × Int32) => [bX12 y a0 x2l.2]) (fun rc10 x10l ih10 hf => ?_) hf rfl rfl
            try dsimp only at hf ⊢
            refine a_iload (pc := 50) (j := 5) F dX12_laysDiffer_50 rfl ?_
            refine a_bipush (pc := 52) F dX12_laysDiffer_52 kb_10 ?_
            refine a_icmp_ge (pc := 54) (tgt := 87) F dX12_laysDiffer_54 (by decide) (fun h => ?_) (fun h => ?_)
            · replace hf := it_pos h hf
              refine a_sub [0, 1, 2, 4] rfl ?_
              obtain rfl := Option.some.inj hf
              exact J7
            · replace hf := it_neg h hf
              refine a_iloadn (pc := 57) (j := 2) F dX12_laysDiffer_57 rfl rfl ?_
              refine a_iload (pc := 58) (j := 5) F dX12_laysDiffer_58 rfl ?_
              obtain ⟨t11, ht11, hf⟩ := bd_some hf
              refine a_callS (pc := 60) (bs' := [bX12 y a0 x2l.2]) F [] (c_X12_holds l D y ek n  _ _ _ ht11) (va_cwS 2 F.1.2.2.2.2 (gS q7_108 q7_109 q1_11 q7_110) rfl rfl rfl (by decide +kernel) ⟨Nat.le_of_ble_eq_true rfl, Nat.le_of_ble_eq_true rfl⟩) (by decide) rfl rfl rfl rfl rfl rfl (Nat.le_of_ble_eq_true rfl) ⟨Nat.zero_le _, Nat.zero_le _⟩ dX12_laysDiffer_60 ?_
              refine a_join 81 (fun (t12 : Int32) => [(0, .ref (a0 0)), (1, .int x1), (2, .int x2l.1), (3, .int t5), (4, .int t12), (5, .int x10l.2)]) (fun (t12 : Int32) => []) (fun (t12 : Int32) => [bX12 y a0 x2l.2]) hf (fun t12 hf => ?_) (fun t12 hf J12 => ?_)
              · try dsimp only at hf ⊢
                refine a_iinc (pc := 81) (j := 5) (v := (x10l.2 + 1)) (lv' := [(0, .ref (a0 0)), (1, .int x1), (2, .int x2l.1), (3, .int t5), (4, .int t12), (5, .int (x10l.2 + 1))]) F [1, 2, 3, 4, 5, 0] dX12_laysDiffer_81 rfl ki_1 (by decide) rfl ?_
                refine a_goto (pc := 84) (tgt := 50) F dX12_laysDiffer_84 (by decide) ?_
                exact ih10 (t12, (x10l.2 + 1)) hf
              · refine a_if_eq (pc := 63) (tgt := 81) F dX12_laysDiffer_63 (by decide) (fun h => ?_) (fun h => ?_)
                · replace hf := it_pos h hf
                  obtain rfl := Option.some.inj hf
                  exact J12
                · replace hf := it_neg h hf
                  refine a_iload (pc := 66) (j := 4) F dX12_laysDiffer_66 rfl ?_
                  refine a_aloadn (pc := 68) (j := 0) F dX12_laysDiffer_68 rfl rfl ?_
                  refine a_iloadn (pc := 69) (j := 2) F dX12_laysDiffer_69 rfl rfl ?_
                  refine a_iloadn (pc := 70) (j := 3) F dX12_laysDiffer_70 rfl rfl ?_
                  refine a_iload (pc := 71) (j := 5) F dX12_laysDiffer_71 rfl ?_
                  obtain ⟨t13, ht13, hf⟩ := bd_some hf
                  refine a_callV (pc := 73) (bs' := [bX12 y a0 x2l.2]) (kb := 0) (j := 0) F [0] (c_X12_differBy l D y ek n a0 _ _ _ _ _ ht13) (cwV 3 F.1.2.2.2.2 (gV q8_145 q8_147 qs_99 q1_11 q8_148) rfl rfl rfl (by decide +kernel) ⟨Nat.le_of_ble_eq_true rfl, Nat.le_of_ble_eq_true rfl⟩) rfl rfl rfl rfl (by decide) rfl rfl rfl rfl rfl rfl (Nat.le_of_ble_eq_true rfl) ⟨Nat.zero_le _, Nat.zero_le _⟩ dX12_laysDiffer_73 ?_
                  refine a_mmin (pc := 76) F (tl q7_119) (tl q2_170) (tl q1_22) (tl q_math_min) (Nat.le_of_ble_eq_true rfl) (Nat.le_of_ble_eq_true rfl) (Nat.zero_le _) (Nat.zero_le _) dX12_laysDiffer_76 ?_
                  obtain ⟨x4_14, ex4_14, hf⟩ := nm_some hf
                  refine a_nmi ex4_14 ?_
                  refine a_istore (pc := 79) (lv' := [(0, .ref (a0 0)), (1, .int x1), (2, .int x2l.1), (3, .int t5), (4, .int x4_14), (5, .int x10l.2)]) F [1, 2, 3, 4, 0, 5] dX12_laysDiffer_79 (by decide) rfl ?_
                  obtain rfl := Option.some.inj hf
                  exact J12
        · replace hf := it_pos h hf
          refine a_goto (pc := 32) (tgt := 95) F dX12_laysDiffer_32 (by decide) ?_
          obtain rfl := Option.some.inj hf
          exact J3

abbrev wX12_partnerIn : List Cond := Cond.code yX12_partnerIn cX12_partnerIn 4 (some .int) :: WALL
def m_X12_partnerIn (n : Nat) (v0 : St) (x1 : Int32) : Option (Int32) :=
bd (m_X12_leastOf n x1) (fun t1 =>
nm (t1 + 1) (fun x3_2 =>
lp (fun (rc3 : Int32 → Option (Int32)) (x3l : Int32) =>
bd (m_X12_holds n x1 x3l) (fun t4 =>
jn (fun (t5 : Unit) =>
rc3 (x3l + 1)) (fun (K5 : Unit → Option (Int32)) =>
(if t4 = 0 then
K5 ()
else
bd (m_X12_differBy n v0 x1 t1 x3l) (fun t6 =>
(if ix x1 1024 then (if t6 = (v0 18 (x1).toNatClampNeg) then
some x3l
else
K5 ()) else none)))))) n x3_2))
set_option maxHeartbeats 4000000 in
set_option maxRecDepth 100000 in
theorem c_X12_partnerIn (l : Launch) (D : va_G) (y : Nat → ClassId) (ek : EK) (n : Nat) (a0 : Nat → Nat) (v0 : St) (x1 : Int32) (res : Int32) (hf : m_X12_partnerIn n v0 x1 = some res) : CI l yX12_partnerIn wX12_partnerIn { frames := 5, cells := 0, slots := 0, locals := 110 } D y ek [.ref (a0 0), .int x1] [bX12 y a0 v0] (res) [bX12 y a0 v0] 0 0 := by
  unfold m_X12_partnerIn at hf
  refine ci_of (cc := cX12_partnerIn) (maxL := 4) (by decide) rfl rfl (Nat.le_of_ble_eq_true rfl) ?_
  intro p e s m below meth c Q A F hret
  refine a_lv (lv' := [(0, .ref (a0 0)), (1, .int x1)]) rfl ?_
  refine a_iloadn (pc := 0) (j := 1) F dX12_partnerIn_0 rfl rfl ?_
  obtain ⟨t1, ht1, hf⟩ := bd_some hf
  refine a_callS (pc := 1) (bs' := [bX12 y a0 v0]) F [] (c_X12_leastOf l D y ek n  _ _ ht1) (va_cwS 1 F.1.2.2.2.2 (gS q8_138 q8_139 q1_11 q8_140) rfl rfl rfl (by decide +kernel) ⟨Nat.le_of_ble_eq_true rfl, Nat.le_of_ble_eq_true rfl⟩) (by decide) rfl rfl rfl rfl rfl rfl (Nat.le_of_ble_eq_true rfl) ⟨Nat.zero_le _, Nat.zero_le _⟩ dX12_partnerIn_1 ?_
  refine a_istoren (pc := 4) (lv' := [(0, .ref (a0 0)), (1, .int x1), (2, .int t1)]) F [1, 2, 0] dX12_partnerIn_4 rfl (by decide) rfl ?_
  refine a_iloadn (pc := 5) (j := 2) F dX12_partnerIn_5 rfl rfl ?_
  refine a_iconst (pc := 6) F dX12_partnerIn_6 kc_1 ?_
  refine a_iadd (pc := 7) F dX12_partnerIn_7 ?_
  obtain ⟨x3_2, ex3_2, hf⟩ := nm_some hf
  refine a_nmi ex3_2 ?_
  refine a_istoren (pc := 8) (lv' := [(0, .ref (a0 0)), (1, .int x1), (2, .int t1), (3, .int x3_2)]) F [1, 2, 3, 0] dX12_partnerIn_8 rfl (by decide) rfl ?_
  refine a_loop 9 (fun (x3l : Int32) => [(0, .ref (a0 0)), (1, .int x1), (2, .int t1), (3, .int x3l)]) (fun (x3l : Int32) => [bX12 y a0 v0]) (fun rc3 x3l ih3 hf => ?_) hf rfl rfl
  try dsimp only at hf ⊢
  refine a_iloadn (pc := 9) (j := 1) F dX12_partnerIn_9 rfl rfl ?_
  refine a_iloadn (pc := 10) (j := 3) F dX12_partnerIn_10 rfl rfl ?_
  obtain ⟨t4, ht4, hf⟩ := bd_some hf
  refine a_callS (pc := 11) (bs' := [bX12 y a0 v0]) F [] (c_X12_holds l D y ek n  _ _ _ ht4) (va_cwS 2 F.1.2.2.2.2 (gS q7_108 q7_109 q1_11 q7_110) rfl rfl rfl (by decide +kernel) ⟨Nat.le_of_ble_eq_true rfl, Nat.le_of_ble_eq_true rfl⟩) (by decide) rfl rfl rfl rfl rfl rfl (Nat.le_of_ble_eq_true rfl) ⟨Nat.zero_le _, Nat.zero_le _⟩ dX12_partnerIn_11 ?_
  refine a_jn 33 (fun (t5 : Unit) => [(0, .ref (a0 0)), (1, .int x1), (2, .int t1), (3, .int x3l)]) (fun (t5 : Unit) => []) (fun (t5 : Unit) => [bX12 y a0 v0]) hf (fun t5 hf => ?_) (fun K5 hK5 hf => ?_)
  · try dsimp only at hf ⊢
    refine a_iinc (pc := 33) (j := 3) (v := (x3l + 1)) (lv' := [(0, .ref (a0 0)), (1, .int x1), (2, .int t1), (3, .int (x3l + 1))]) F [1, 2, 3, 0] dX12_partnerIn_33 rfl ki_1 (by decide) rfl ?_
    refine a_goto (pc := 36) (tgt := 9) F dX12_partnerIn_36 (by decide) ?_
    exact ih3 (x3l + 1) hf
  · try dsimp only at hf
    refine a_if_eq (pc := 14) (tgt := 33) F dX12_partnerIn_14 (by decide) (fun h => ?_) (fun h => ?_)
    · replace hf := it_pos h hf
      exact hK5 () hf
    · replace hf := it_neg h hf
      refine a_aloadn (pc := 17) (j := 0) F dX12_partnerIn_17 rfl rfl ?_
      refine a_iloadn (pc := 18) (j := 1) F dX12_partnerIn_18 rfl rfl ?_
      refine a_iloadn (pc := 19) (j := 2) F dX12_partnerIn_19 rfl rfl ?_
      refine a_iloadn (pc := 20) (j := 3) F dX12_partnerIn_20 rfl rfl ?_
      obtain ⟨t6, ht6, hf⟩ := bd_some hf
      refine a_callV (pc := 21) (bs' := [bX12 y a0 v0]) (kb := 0) (j := 0) F [0] (c_X12_differBy l D y ek n a0 _ _ _ _ _ ht6) (cwV 3 F.1.2.2.2.2 (gV q8_145 q8_147 qs_99 q1_11 q8_148) rfl rfl rfl (by decide +kernel) ⟨Nat.le_of_ble_eq_true rfl, Nat.le_of_ble_eq_true rfl⟩) rfl rfl rfl rfl (by decide) rfl rfl rfl rfl rfl rfl (Nat.le_of_ble_eq_true rfl) ⟨Nat.zero_le _, Nat.zero_le _⟩ dX12_partnerIn_21 ?_
      refine a_aloadn (pc := 24) (j := 0) F dX12_partnerIn_24 rfl rfl ?_
      refine a_get (pc := 25) (kb := 0) (j := 0) (f := 18) F iW_X12 rfl rfl rfl (by decide) (tl q6_86) (fun _ h => h) rfl dX12_partnerIn_25 ?_
      refine a_iloadn (pc := 28) (j := 1) F dX12_partnerIn_28 rfl rfl ?_
      obtain ⟨h7, hf⟩ := gd_some hf
      refine a_iald (pc := 29) (kb := 0) (j := 9) F rfl rfl h7 dX12_partnerIn_29 ?_
      refine a_icmp_eq (pc := 30) (tgt := 39) F dX12_partnerIn_30 (by decide) (fun h => ?_) (fun h => ?_)
      · replace hf := it_pos h hf
        refine a_iloadn (pc := 39) (j := 3) F dX12_partnerIn_39 rfl rfl ?_
        obtain rfl := Option.some.inj hf
        exact hret _ _ _ _ (Nat.zero_le _) (Nat.zero_le _) rfl dX12_partnerIn_40
      · replace hf := it_neg h hf
        exact hK5 () hf

abbrev wX12_match : List Cond := Cond.code yX12_match cX12_match 6 (some .int) :: WALL
def m_X12_match (n : Nat) (v0 : St) (x1 : Int32) (x2 : Int32) : Option (Int32 × St) :=
nm (su v0 0 0 0) (fun u1 =>
jn (fun (t2 : St) =>
bd (m_X12_houses n t2) (fun t3 =>
nm (x1 &&& ((x_shl 1 t3) - 1)) (fun x3_4 =>
bd (m_J6_bitCount_0f7a4 n x3_4) (fun t5 =>
(if (x_rem t5 2) = 1 then
some ((-1), t2)
else
bd (m_J6_bitCount_0f7a4 n x3_4) (fun t6 =>
(if t6 ≤ 8 then
bd (m_X12_laysDiffer n t2 x3_4) (fun t7 =>
(if x2 = (-1) then
(if ix x3_4 1024 then some ((t7 18 (x3_4).toNatClampNeg), t7) else none)
else
lp (fun (rc8 : Int32 → Option (Int32 × St)) (x8l : Int32) =>
(if x8l = 0 then
some ((-1), t7)
else
bd (m_X12_leastOf n x8l) (fun t9 =>
bd (m_X12_partnerIn n t7 x8l) (fun t10 =>
(if x2 = t9 then
some (t10, t7)
else
(if x2 = t10 then
some (t9, t7)
else
nm (x8l &&& (((x_shl 1 t9) ^^^ (-1)) &&& ((x_shl 1 t10) ^^^ (-1)))) (fun x3_11 =>
rc8 x3_11))))))) n x3_4))
else
some ((-1), t2)))))))) (fun (K2 : St → Option (Int32 × St)) =>
(if x2 = (-1) then
K2 u1
else
bd (m_X12_noHouse n u1 x2) (fun t13 =>
bd (m_X12_throwsIf n u1 t13 1) (fun t14 =>
(if t14.1 = 0 then
K2 t14.2
else
some (0, t14.2)))))))
set_option maxHeartbeats 4000000 in
set_option maxRecDepth 100000 in
theorem c_X12_match (l : Launch) (D : va_G) (y : Nat → ClassId) (ek : EK) (n : Nat) (a0 : Nat → Nat) (v0 : St) (x1 : Int32) (x2 : Int32) (res : Int32 × St) (hf : m_X12_match n v0 x1 x2 = some res) : CI l yX12_match wX12_match { frames := 6, cells := 0, slots := 0, locals := 135 } D y ek [.ref (a0 0), .int x1, .int x2] [bX12 y a0 v0] (res.1) [bX12 y a0 res.2] 0 0 := by
  unfold m_X12_match at hf
  refine ci_of (cc := cX12_match) (maxL := 6) (by decide) rfl rfl (Nat.le_of_ble_eq_true rfl) ?_
  intro p e s m below meth c Q A F hret
  refine a_lv (lv' := [(0, .ref (a0 0)), (1, .int x1), (2, .int x2)]) rfl ?_
  refine a_aloadn (pc := 0) (j := 0) F dX12_match_0 rfl rfl ?_
  refine a_iconst (pc := 1) F dX12_match_1 kc_0 ?_
  obtain ⟨u1, eu1, hf⟩ := nm_some hf
  refine a_put (pc := 2) (kb := 0) (j := 0) (f := 0) (ty := .int) (bs' := [bX12 y a0 u1]) F iW_X12 rfl rfl rfl (by decide) (tl q6_68) (fun _ h => h) tyX12 tyX12_ok nmX12 rfl rfl rfl rfl (Nat.le_of_ble_eq_true rfl) (by rw [eu1]; rfl) dX12_match_2 ?_
  refine a_iloadn (pc := 5) (j := 2) F dX12_match_5 rfl rfl ?_
  refine a_iconst (pc := 6) F dX12_match_6 kc_m1 ?_
  refine a_jn 25 (fun (t2 : St) => [(0, .ref (a0 0)), (1, .int x1), (2, .int x2)]) (fun (t2 : St) => []) (fun (t2 : St) => [bX12 y a0 t2]) hf (fun t2 hf => ?_) (fun K2 hK2 hf => ?_)
  · try dsimp only at hf ⊢
    refine a_iloadn (pc := 25) (j := 1) F dX12_match_25 rfl rfl ?_
    refine a_iconst (pc := 26) F dX12_match_26 kc_1 ?_
    refine a_aloadn (pc := 27) (j := 0) F dX12_match_27 rfl rfl ?_
    obtain ⟨t3, ht3, hf⟩ := bd_some hf
    refine a_callV (pc := 28) (bs' := [bX12 y a0 t2]) (kb := 0) (j := 0) F [0] (c_X12_houses l D y ek n a0 _ _ ht3) (cwV 0 F.1.2.2.2.2 (gV q6_220 q6_222 qs_38 q1_11 q6_223) rfl rfl rfl (by decide +kernel) ⟨Nat.le_of_ble_eq_true rfl, Nat.le_of_ble_eq_true rfl⟩) rfl rfl rfl rfl (by decide) rfl rfl rfl rfl rfl rfl (Nat.le_of_ble_eq_true rfl) ⟨Nat.zero_le _, Nat.zero_le _⟩ dX12_match_28 ?_
    refine a_ishl (pc := 31) F dX12_match_31 ?_
    refine a_iconst (pc := 32) F dX12_match_32 kc_1 ?_
    refine a_isub (pc := 33) F dX12_match_33 ?_
    refine a_iand (pc := 34) F dX12_match_34 ?_
    obtain ⟨x3_4, ex3_4, hf⟩ := nm_some hf
    refine a_nmi ex3_4 ?_
    refine a_istoren (pc := 35) (lv' := [(0, .ref (a0 0)), (1, .int x1), (2, .int x2), (3, .int x3_4)]) F [1, 2, 3, 0] dX12_match_35 rfl (by decide) rfl ?_
    refine a_iloadn (pc := 36) (j := 3) F dX12_match_36 rfl rfl ?_
    obtain ⟨t5, ht5, hf⟩ := bd_some hf
    refine a_callS (pc := 37) (bs' := [bX12 y a0 t2]) F [] (c_J6_bitCount_0f7a4 l D y ek n  _ _ ht5) (va_cwS 1 F.1.2.2.2.2 (gS q8_23 q5_100 q1_26 q5_101) rfl rfl rfl (by decide +kernel) ⟨Nat.le_of_ble_eq_true rfl, Nat.le_of_ble_eq_true rfl⟩) (by decide) rfl rfl rfl rfl rfl rfl (Nat.le_of_ble_eq_true rfl) ⟨Nat.zero_le _, Nat.zero_le _⟩ dX12_match_37 ?_
    refine a_iconst (pc := 40) F dX12_match_40 kc_2 ?_
    refine a_irem (pc := 41) F dX12_match_41 (by decide) ?_
    refine a_iconst (pc := 42) F dX12_match_42 kc_1 ?_
    refine a_icmp_eq (pc := 43) (tgt := 55) F dX12_match_43 (by decide) (fun h => ?_) (fun h => ?_)
    · replace hf := it_pos h hf
      refine a_iconst (pc := 55) F dX12_match_55 kc_m1 ?_
      obtain rfl := Option.some.inj hf
      exact hret _ _ _ _ (Nat.zero_le _) (Nat.zero_le _) rfl dX12_match_56
    · replace hf := it_neg h hf
      refine a_iloadn (pc := 46) (j := 3) F dX12_match_46 rfl rfl ?_
      obtain ⟨t6, ht6, hf⟩ := bd_some hf
      refine a_callS (pc := 47) (bs' := [bX12 y a0 t2]) F [] (c_J6_bitCount_0f7a4 l D y ek n  _ _ ht6) (va_cwS 1 F.1.2.2.2.2 (gS q8_23 q5_100 q1_26 q5_101) rfl rfl rfl (by decide +kernel) ⟨Nat.le_of_ble_eq_true rfl, Nat.le_of_ble_eq_true rfl⟩) (by decide) rfl rfl rfl rfl rfl rfl (Nat.le_of_ble_eq_true rfl) ⟨Nat.zero_le _, Nat.zero_le _⟩ dX12_match_47 ?_
      refine a_bipush (pc := 50) F dX12_match_50 kb_8 ?_
      refine a_icmp_le (pc := 52) (tgt := 57) F dX12_match_52 (by decide) (fun h => ?_) (fun h => ?_)
      · replace hf := it_pos h hf
        refine a_aloadn (pc := 57) (j := 0) F dX12_match_57 rfl rfl ?_
        refine a_iloadn (pc := 58) (j := 3) F dX12_match_58 rfl rfl ?_
        obtain ⟨t7, ht7, hf⟩ := bd_some hf
        refine a_callVv (pc := 59) (bs' := [bX12 y a0 t7]) (kb := 0) (j := 0) F [0] (c_X12_laysDiffer l D y ek n a0 _ _ _ ht7) (cwV 1 F.1.2.2.2.2 (gV q8_134 q8_136 qs_98 q1_11 q8_137) rfl rfl rfl (by decide +kernel) ⟨Nat.le_of_ble_eq_true rfl, Nat.le_of_ble_eq_true rfl⟩) rfl rfl rfl rfl (by decide) rfl rfl rfl rfl rfl rfl (Nat.le_of_ble_eq_true rfl) ⟨Nat.zero_le _, Nat.zero_le _⟩ dX12_match_59 ?_
        refine a_iloadn (pc := 62) (j := 2) F dX12_match_62 rfl rfl ?_
        refine a_iconst (pc := 63) F dX12_match_63 kc_m1 ?_
        refine a_icmp_ne (pc := 64) (tgt := 74) F dX12_match_64 (by decide) (fun h => ?_) (fun h => ?_)
        · replace hf := it_neg h hf
          refine a_sub [0, 2, 3] rfl ?_
          refine a_loop 74 (fun (x8l : Int32) => [(0, .ref (a0 0)), (2, .int x2), (3, .int x8l)]) (fun (x8l : Int32) => [bX12 y a0 t7]) (fun rc8 x8l ih8 hf => ?_) hf rfl rfl
          try dsimp only at hf ⊢
          refine a_iloadn (pc := 74) (j := 2) F dX12_match_74 rfl rfl ?_
          refine a_if_eq (pc := 75) (tgt := 128) F dX12_match_75 (by decide) (fun h => ?_) (fun h => ?_)
          · replace hf := it_pos h hf
            refine a_iconst (pc := 128) F dX12_match_128 kc_m1 ?_
            obtain rfl := Option.some.inj hf
            exact hret _ _ _ _ (Nat.zero_le _) (Nat.zero_le _) rfl dX12_match_129
          · replace hf := it_neg h hf
            refine a_iloadn (pc := 78) (j := 2) F dX12_match_78 rfl rfl ?_
            obtain ⟨t9, ht9, hf⟩ := bd_some hf
            refine a_callS (pc := 79) (bs' := [bX12 y a0 t7]) F [] (c_X12_leastOf l D y ek n  _ _ ht9) (va_cwS 1 F.1.2.2.2.2 (gS q8_138 q8_139 q1_11 q8_140) rfl rfl rfl (by decide +kernel) ⟨Nat.le_of_ble_eq_true rfl, Nat.le_of_ble_eq_true rfl⟩) (by decide) rfl rfl rfl rfl rfl rfl (Nat.le_of_ble_eq_true rfl) ⟨Nat.zero_le _, Nat.zero_le _⟩ dX12_match_79 ?_
            refine a_istore (pc := 82) (lv' := [(0, .ref (a0 0)), (2, .int x2), (3, .int x8l), (4, .int t9)]) F [1, 2, 3, 0] dX12_match_82 (by decide) rfl ?_
            refine a_aloadn (pc := 84) (j := 0) F dX12_match_84 rfl rfl ?_
            refine a_iloadn (pc := 85) (j := 2) F dX12_match_85 rfl rfl ?_
            obtain ⟨t10, ht10, hf⟩ := bd_some hf
            refine a_callV (pc := 86) (bs' := [bX12 y a0 t7]) (kb := 0) (j := 0) F [0] (c_X12_partnerIn l D y ek n a0 _ _ _ ht10) (cwV 1 F.1.2.2.2.2 (gV q8_149 q8_151 qs_100 q1_11 q8_152) rfl rfl rfl (by decide +kernel) ⟨Nat.le_of_ble_eq_true rfl, Nat.le_of_ble_eq_true rfl⟩) rfl rfl rfl rfl (by decide) rfl rfl rfl rfl rfl rfl (Nat.le_of_ble_eq_true rfl) ⟨Nat.zero_le _, Nat.zero_le _⟩ dX12_match_86 ?_
            refine a_istore (pc := 89) (lv' := [(0, .ref (a0 0)), (2, .int x2), (3, .int x8l), (4, .int t9), (5, .int t10)]) F [1, 2, 3, 4, 0] dX12_match_89 (by decide) rfl ?_
            refine a_iloadn (pc := 91) (j := 1) F dX12_match_91 rfl rfl ?_
            refine a_iload (pc := 92) (j := 3) F dX12_match_92 rfl ?_
            refine a_icmp_ne (pc := 94) (tgt := 100) F dX12_match_94 (by decide) (fun h => ?_) (fun h => ?_)
            · replace hf := it_neg h hf
              refine a_iloadn (pc := 100) (j := 1) F dX12_match_100 rfl rfl ?_
              refine a_iload (pc := 101) (j := 4) F dX12_match_101 rfl ?_
              refine a_icmp_ne (pc := 103) (tgt := 109) F dX12_match_103 (by decide) (fun h => ?_) (fun h => ?_)
              · replace hf := it_neg h hf
                refine a_iloadn (pc := 109) (j := 2) F dX12_match_109 rfl rfl ?_
                refine a_iconst (pc := 110) F dX12_match_110 kc_1 ?_
                refine a_iload (pc := 111) (j := 3) F dX12_match_111 rfl ?_
                refine a_ishl (pc := 113) F dX12_match_113 ?_
                refine a_iconst (pc := 114) F dX12_match_114 kc_m1 ?_
                refine a_ixor (pc := 115) F dX12_match_115 ?_
                refine a_iconst (pc := 116) F dX12_match_116 kc_1 ?_
                refine a_iload (pc := 117) (j := 4) F dX12_match_117 rfl ?_
                refine a_ishl (pc := 119) F dX12_match_119 ?_
                refine a_iconst (pc := 120) F dX12_match_120 kc_m1 ?_
                refine a_ixor (pc := 121) F dX12_match_121 ?_
                refine a_iand (pc := 122) F dX12_match_122 ?_
                refine a_iand (pc := 123) F dX12_match_123 ?_
                obtain ⟨x3_11, ex3_11, hf⟩ := nm_some hf
                refine a_nmi ex3_11 ?_
                refine a_istoren (pc := 124) (lv' := [(0, .ref (a0 0)), (2, .int x2), (3, .int x3_11), (4, .int t9), (5, .int t10)]) F [1, 2, 0, 3, 4] dX12_match_124 rfl (by decide) rfl ?_
                refine a_goto (pc := 125) (tgt := 74) F dX12_match_125 (by decide) ?_
                refine a_sub [0, 1, 2] rfl ?_
                exact ih8 x3_11 hf
              · replace hf := it_pos h hf
                refine a_iload (pc := 106) (j := 3) F dX12_match_106 rfl ?_
                obtain rfl := Option.some.inj hf
                exact hret _ _ _ _ (Nat.zero_le _) (Nat.zero_le _) rfl dX12_match_108
            · replace hf := it_pos h hf
              refine a_iload (pc := 97) (j := 4) F dX12_match_97 rfl ?_
              obtain rfl := Option.some.inj hf
              exact hret _ _ _ _ (Nat.zero_le _) (Nat.zero_le _) rfl dX12_match_99
        · replace hf := it_pos h hf
          refine a_aloadn (pc := 67) (j := 0) F dX12_match_67 rfl rfl ?_
          refine a_get (pc := 68) (kb := 0) (j := 0) (f := 18) F iW_X12 rfl rfl rfl (by decide) (tl q6_86) (fun _ h => h) rfl dX12_match_68 ?_
          refine a_iloadn (pc := 71) (j := 3) F dX12_match_71 rfl rfl ?_
          obtain ⟨h12, hf⟩ := gd_some hf
          refine a_iald (pc := 72) (kb := 0) (j := 9) F rfl rfl h12 dX12_match_72 ?_
          obtain rfl := Option.some.inj hf
          exact hret _ _ _ _ (Nat.zero_le _) (Nat.zero_le _) rfl dX12_match_73
      · replace hf := it_neg h hf
        refine a_iconst (pc := 55) F dX12_match_55 kc_m1 ?_
        obtain rfl := Option.some.inj hf
        exact hret _ _ _ _ (Nat.zero_le _) (Nat.zero_le _) rfl dX12_match_56
  · try dsimp only at hf
    refine a_icmp_eq (pc := 7) (tgt := 25) F dX12_match_7 (by decide) (fun h => ?_) (fun h => ?_)
    · replace hf := it_pos h hf
      exact hK2 u1 hf
    · replace hf := it_neg h hf
      refine a_aloadn (pc := 10) (j := 0) F dX12_match_10 rfl rfl ?_
      refine a_aloadn (pc := 11) (j := 0) F dX12_match_11 rfl rfl ?_
      refine a_iloadn (pc := 12) (j := 2) F dX12_match_12 rfl rfl ?_
      obtain ⟨t13, ht13, hf⟩ := bd_some hf
      refine a_callV (pc := 13) (bs' := [bX12 y a0 u1]) (kb := 0) (j := 0) F [0] (c_X12_noHouse l D y ek n a0 _ _ _ ht13) (cwV 1 F.1.2.2.2.2 (gV q7_159 q7_161 qs_70 q1_11 q7_162) rfl rfl rfl (by decide +kernel) ⟨Nat.le_of_ble_eq_true rfl, Nat.le_of_ble_eq_true rfl⟩) rfl rfl rfl rfl (by decide) rfl rfl rfl rfl rfl rfl (Nat.le_of_ble_eq_true rfl) ⟨Nat.zero_le _, Nat.zero_le _⟩ dX12_match_13 ?_
      refine a_iconst (pc := 16) F dX12_match_16 kc_1 ?_
      obtain ⟨t14, ht14, hf⟩ := bd_some hf
      refine a_callV (pc := 17) (bs' := [bX12 y a0 t14.2]) (kb := 0) (j := 0) F [0] (c_X12_throwsIf l D y ek n a0 _ _ _ _ ht14) (cwV 2 F.1.2.2.2.2 (gV q7_61 q7_63 qs_52 q1_11 q7_64) rfl rfl rfl (by decide +kernel) ⟨Nat.le_of_ble_eq_true rfl, Nat.le_of_ble_eq_true rfl⟩) rfl rfl rfl rfl (by decide) rfl rfl rfl rfl rfl rfl (Nat.le_of_ble_eq_true rfl) ⟨Nat.zero_le _, Nat.zero_le _⟩ dX12_match_17 ?_
      refine a_if_eq (pc := 20) (tgt := 25) F dX12_match_20 (by decide) (fun h => ?_) (fun h => ?_)
      · replace hf := it_pos h hf
        exact hK2 t14.2 hf
      · replace hf := it_neg h hf
        refine a_iconst (pc := 23) F dX12_match_23 kc_0 ?_
        obtain rfl := Option.some.inj hf
        exact hret _ _ _ _ (Nat.zero_le _) (Nat.zero_le _) rfl dX12_match_24

abbrev wX12_isTold : List Cond := Cond.code yX12_isTold cX12_isTold 3 (some .boolean) :: WALL
def m_X12_isTold (n : Nat) (v0 : St) : Option (Int32) :=
bd (jn (fun (t10 : Unit) =>
some 0) (fun (K10 : Unit → Option (Int32)) =>
(if (x_rem (v0 11 0) 2) = 0 then
(if 40 < (v0 11 0) then
K10 ()
else
some 1)
else
K10 ()))) (fun (t1 : Int32) =>
bd (lp (fun (rc3 : Int32 × Int32 → Option (Int32)) (x3l : Int32 × Int32) =>
(if (v0 11 0) ≤ x3l.2 then
some x3l.1
else
(if x3l.1 = 0 then
some x3l.1
else
(if ix x3l.2 400 then bd (m_X12_in n (v0 8 (x3l.2).toNatClampNeg) 0 20) (fun t5 =>
bd (jn (fun (t7 : Unit) =>
some 0) (fun (K7 : Unit → Option (Int32)) =>
(if t5 = 0 then
K7 ()
else
(if ix (x3l.2 + 1) 400 then bd (m_X12_in n (v0 8 ((x3l.2 + 1)).toNatClampNeg) 0 10) (fun t9 =>
(if t9 = 0 then
K7 ()
else
some 1)) else none)))) (fun (t6 : Int32) =>
rc3 (t6, (x3l.2 + 2)))) else none)))) n (t1, 0)) (fun (t2 : Int32) =>
(if isb t2 then some t2 else none)))
set_option maxHeartbeats 4000000 in
set_option maxRecDepth 100000 in
theorem c_X12_isTold (l : Launch) (D : va_G) (y : Nat → ClassId) (ek : EK) (n : Nat) (a0 : Nat → Nat) (v0 : St) (res : Int32) (hf : m_X12_isTold n v0 = some res) : CI l yX12_isTold wX12_isTold { frames := 1, cells := 0, slots := 0, locals := 22 } D y ek [.ref (a0 0)] [bX12 y a0 v0] (res) [bX12 y a0 v0] 0 0 := by
  unfold m_X12_isTold at hf
  refine ci_of (cc := cX12_isTold) (maxL := 3) (by decide) rfl rfl (Nat.le_of_ble_eq_true rfl) ?_
  intro p e s m below meth c Q A F hret
  refine a_lv (lv' := [(0, .ref (a0 0))]) rfl ?_
  refine a_aloadn (pc := 0) (j := 0) F dX12_isTold_0 rfl rfl ?_
  refine a_get (pc := 1) (kb := 0) (j := 0) (f := 11) F iW_X12 rfl rfl rfl (by decide) (tl q6_79) (fun _ h => h) rfl dX12_isTold_1 ?_
  refine a_iconst (pc := 4) F dX12_isTold_4 kc_2 ?_
  refine a_irem (pc := 5) F dX12_isTold_5 (by decide) ?_
  refine a_join 23 (fun (t1 : Int32) => [(0, .ref (a0 0))]) (fun (t1 : Int32) => [.int t1]) (fun (t1 : Int32) => [bX12 y a0 v0]) hf (fun t1 hf => ?_) (fun t1 hf J1 => ?_)
  · try dsimp only at hf ⊢
    refine a_istoren (pc := 23) (lv' := [(0, .ref (a0 0)), (1, .int t1)]) F [1, 0] dX12_isTold_23 rfl (by decide) rfl ?_
    refine a_iconst (pc := 24) F dX12_isTold_24 kc_0 ?_
    refine a_istoren (pc := 25) (lv' := [(0, .ref (a0 0)), (1, .int t1), (2, .int 0)]) F [1, 2, 0] dX12_isTold_25 rfl (by decide) rfl ?_
    refine a_join 82 (fun (t2 : Int32) => [(1, .int t2)]) (fun (t2 : Int32) => []) (fun (t2 : Int32) => [bX12 y a0 v0]) hf (fun t2 hf => ?_) (fun t2 hf J2 => ?_)
    · try dsimp only at hf ⊢
      refine a_iloadn (pc := 82) (j := 0) F dX12_isTold_82 rfl rfl ?_
      obtain ⟨hz, hf⟩ := gd_some hf
      obtain rfl := Option.some.inj hf
      exact hret _ _ _ _ (Nat.zero_le _) (Nat.zero_le _) (z_nar hz) dX12_isTold_83
    · refine a_loop 26 (fun (x3l : Int32 × Int32) => [(0, .ref (a0 0)), (1, .int x3l.1), (2, .int x3l.2)]) (fun (x3l : Int32 × Int32) => [bX12 y a0 v0]) (fun rc3 x3l ih3 hf => ?_) hf rfl rfl
      try dsimp only at hf ⊢
      refine a_iloadn (pc := 26) (j := 2) F dX12_isTold_26 rfl rfl ?_
      refine a_aloadn (pc := 27) (j := 0) F dX12_isTold_27 rfl rfl ?_
      refine a_get (pc := 28) (kb := 0) (j := 0) (f := 11) F iW_X12 rfl rfl rfl (by decide) (tl q6_79) (fun _ h => h) rfl dX12_isTold_28 ?_
      refine a_icmp_ge (pc := 31) (tgt := 82) F dX12_isTold_31 (by decide) (fun h => ?_) (fun h => ?_)
      · replace hf := it_pos h hf
        refine a_sub [1] rfl ?_
        obtain rfl := Option.some.inj hf
        exact J2
      · replace hf := it_neg h hf
        refine a_iloadn (pc := 34) (j := 1) F dX12_isTold_34 rfl rfl ?_
        refine a_if_eq (pc := 35) (tgt := 82) F dX12_isTold_35 (by decide) (fun h => ?_) (fun h => ?_)
        · replace hf := it_pos h hf
          refine a_sub [1] rfl ?_
          obtain rfl := Option.some.inj hf
          exact J2
        · replace hf := it_neg h hf
          refine a_aloadn (pc := 38) (j := 0) F dX12_isTold_38 rfl rfl ?_
          refine a_get (pc := 39) (kb := 0) (j := 0) (f := 8) F iW_X12 rfl rfl rfl (by decide) (tl q6_76) (fun _ h => h) rfl dX12_isTold_39 ?_
          refine a_iloadn (pc := 42) (j := 2) F dX12_isTold_42 rfl rfl ?_
          obtain ⟨h4, hf⟩ := gd_some hf
          refine a_bald (pc := 43) (kb := 0) (j := 6) F rfl rfl h4 dX12_isTold_43 ?_
          refine a_iconst (pc := 44) F dX12_isTold_44 kc_0 ?_
          refine a_bipush (pc := 45) F dX12_isTold_45 kb_20 ?_
          obtain ⟨t5, ht5, hf⟩ := bd_some hf
          refine a_callS (pc := 47) (bs' := [bX12 y a0 v0]) F [] (c_X12_in l D y ek n  _ _ _ _ ht5) (va_cwS 3 F.1.2.2.2.2 (gS q7_77 q7_78 q1_11 q7_79) rfl rfl rfl (by decide +kernel) ⟨Nat.le_of_ble_eq_true rfl, Nat.le_of_ble_eq_true rfl⟩) (by decide) rfl rfl rfl rfl rfl rfl (Nat.le_of_ble_eq_true rfl) ⟨Nat.zero_le _, Nat.zero_le _⟩ dX12_isTold_47 ?_
          refine a_join 75 (fun (t6 : Int32) => [(0, .ref (a0 0)), (2, .int x3l.2)]) (fun (t6 : Int32) => [.int t6]) (fun (t6 : Int32) => [bX12 y a0 v0]) hf (fun t6 hf => ?_) (fun t6 hf J6 => ?_)
          · try dsimp only at hf ⊢
            refine a_istoren (pc := 75) (lv' := [(0, .ref (a0 0)), (1, .int t6), (2, .int x3l.2)]) F [1, 0, 2] dX12_isTold_75 rfl (by decide) rfl ?_
            refine a_iinc (pc := 76) (j := 2) (v := (x3l.2 + 2)) (lv' := [(0, .ref (a0 0)), (1, .int t6), (2, .int (x3l.2 + 2))]) F [1, 2, 0] dX12_isTold_76 rfl ki_2 (by decide) rfl ?_
            refine a_goto (pc := 79) (tgt := 26) F dX12_isTold_79 (by decide) ?_
            exact ih3 (t6, (x3l.2 + 2)) hf
          · refine a_jn 74 (fun (t7 : Unit) => [(0, .ref (a0 0)), (2, .int x3l.2)]) (fun (t7 : Unit) => []) (fun (t7 : Unit) => [bX12 y a0 v0]) hf (fun t7 hf => ?_) (fun K7 hK7 hf => ?_)
            · try dsimp only at hf ⊢
              refine a_iconst (pc := 74) F dX12_isTold_74 kc_0 ?_
              obtain rfl := Option.some.inj hf
              exact J6
            · try dsimp only at hf
              refine a_if_eq (pc := 50) (tgt := 74) F dX12_isTold_50 (by decide) (fun h => ?_) (fun h => ?_)
              · replace hf := it_pos h hf
                refine a_sub [0, 2] rfl ?_
                exact hK7 () hf
              · replace hf := it_neg h hf
                refine a_aloadn (pc := 53) (j := 0) F dX12_isTold_53 rfl rfl ?_
                refine a_get (pc := 54) (kb := 0) (j := 0) (f := 8) F iW_X12 rfl rfl rfl (by decide) (tl q6_76) (fun _ h => h) rfl dX12_isTold_54 ?_
                refine a_iloadn (pc := 57) (j := 2) F dX12_isTold_57 rfl rfl ?_
                refine a_iconst (pc := 58) F dX12_isTold_58 kc_1 ?_
                refine a_iadd (pc := 59) F dX12_isTold_59 ?_
                obtain ⟨h8, hf⟩ := gd_some hf
                refine a_bald (pc := 60) (kb := 0) (j := 6) F rfl rfl h8 dX12_isTold_60 ?_
                refine a_iconst (pc := 61) F dX12_isTold_61 kc_0 ?_
                refine a_bipush (pc := 62) F dX12_isTold_62 kb_10 ?_
                obtain ⟨t9, ht9, hf⟩ := bd_some hf
                refine a_callS (pc := 64) (bs' := [bX12 y a0 v0]) F [] (c_X12_in l D y ek n  _ _ _ _ ht9) (va_cwS 3 F.1.2.2.2.2 (gS q7_77 q7_78 q1_11 q7_79) rfl rfl rfl (by decide +kernel) ⟨Nat.le_of_ble_eq_true rfl, Nat.le_of_ble_eq_true rfl⟩) (by decide) rfl rfl rfl rfl rfl rfl (Nat.le_of_ble_eq_true rfl) ⟨Nat.zero_le _, Nat.zero_le _⟩ dX12_isTold_64 ?_
                refine a_if_eq (pc := 67) (tgt := 74) F dX12_isTold_67 (by decide) (fun h => ?_) (fun h => ?_)
                · replace hf := it_pos h hf
                  refine a_sub [0, 2] rfl ?_
                  exact hK7 () hf
                · replace hf := it_neg h hf
                  refine a_iconst (pc := 70) F dX12_isTold_70 kc_1 ?_
                  refine a_goto (pc := 71) (tgt := 75) F dX12_isTold_71 (by decide) ?_
                  refine a_sub [0, 2] rfl ?_
                  obtain rfl := Option.some.inj hf
                  exact J6
  · refine a_jn 22 (fun (t10 : Unit) => [(0, .ref (a0 0))]) (fun (t10 : Unit) => []) (fun (t10 : Unit) => [bX12 y a0 v0]) hf (fun t10 hf => ?_) (fun K10 hK10 hf => ?_)
    · try dsimp only at hf ⊢
      refine a_iconst (pc := 22) F dX12_isTold_22 kc_0 ?_
      obtain rfl := Option.some.inj hf
      exact J1
    · try dsimp only at hf
      refine a_if_ne (pc := 6) (tgt := 22) F dX12_isTold_6 (by decide) (fun h => ?_) (fun h => ?_)
      · replace hf := it_neg h hf
        exact hK10 () hf
      · replace hf := it_pos h hf
        refine a_aloadn (pc := 9) (j := 0) F dX12_isTold_9 rfl rfl ?_
        refine a_get (pc := 10) (kb := 0) (j := 0) (f := 11) F iW_X12 rfl rfl rfl (by decide) (tl q6_79) (fun _ h => h) rfl dX12_isTold_10 ?_
        refine a_bipush (pc := 13) F dX12_isTold_13 kb_40 ?_
        refine a_icmp_gt (pc := 15) (tgt := 22) F dX12_isTold_15 (by decide) (fun h => ?_) (fun h => ?_)
        · replace hf := it_pos h hf
          exact hK10 () hf
        · replace hf := it_neg h hf
          refine a_iconst (pc := 18) F dX12_isTold_18 kc_1 ?_
          refine a_goto (pc := 19) (tgt := 23) F dX12_isTold_19 (by decide) ?_
          obtain rfl := Option.some.inj hf
          exact J1

abbrev wX12_heightWith : List Cond := Cond.code yX12_heightWith cX12_heightWith 4 (some .int) :: WALL
def m_X12_heightWith (n : Nat) (v0 : St) (x1 : Int32) (x2 : Int32) (x3 : Int32) : Option (Int32) :=
bd (m_X12_loadOf n v0 ((2 * x1) + 1)) (fun t1 =>
bd (m_X12_loadOf n v0 (2 * x1)) (fun t2 =>
bd (m_X12_weightOf n v0 x2) (fun t3 =>
bd (m_X12_tiltBy n v0 (((t1 - t2) - t3) - (5 * x3))) (fun t4 =>
some (5 + t4)))))
set_option maxHeartbeats 4000000 in
set_option maxRecDepth 100000 in
theorem c_X12_heightWith (l : Launch) (D : va_G) (y : Nat → ClassId) (ek : EK) (n : Nat) (a0 : Nat → Nat) (v0 : St) (x1 : Int32) (x2 : Int32) (x3 : Int32) (res : Int32) (hf : m_X12_heightWith n v0 x1 x2 x3 = some res) : CI l yX12_heightWith wX12_heightWith { frames := 4, cells := 0, slots := 0, locals := 87 } D y ek [.ref (a0 0), .int x1, .int x2, .int x3] [bX12 y a0 v0] (res) [bX12 y a0 v0] 0 0 := by
  unfold m_X12_heightWith at hf
  refine ci_of (cc := cX12_heightWith) (maxL := 4) (by decide) rfl rfl (Nat.le_of_ble_eq_true rfl) ?_
  intro p e s m below meth c Q A F hret
  refine a_lv (lv' := [(0, .ref (a0 0)), (1, .int x1), (2, .int x2), (3, .int x3)]) rfl ?_
  refine a_iconst (pc := 0) F dX12_heightWith_0 kc_5 ?_
  refine a_aloadn (pc := 1) (j := 0) F dX12_heightWith_1 rfl rfl ?_
  refine a_aloadn (pc := 2) (j := 0) F dX12_heightWith_2 rfl rfl ?_
  refine a_iconst (pc := 3) F dX12_heightWith_3 kc_2 ?_
  refine a_iloadn (pc := 4) (j := 1) F dX12_heightWith_4 rfl rfl ?_
  refine a_imul (pc := 5) F dX12_heightWith_5 ?_
  refine a_iconst (pc := 6) F dX12_heightWith_6 kc_1 ?_
  refine a_iadd (pc := 7) F dX12_heightWith_7 ?_
  obtain ⟨t1, ht1, hf⟩ := bd_some hf
  refine a_callV (pc := 8) (bs' := [bX12 y a0 v0]) (kb := 0) (j := 0) F [0] (c_X12_loadOf l D y ek n a0 _ _ _ ht1) (cwV 1 F.1.2.2.2.2 (gV q7_92 q7_94 qs_57 q1_11 q7_95) rfl rfl rfl (by decide +kernel) ⟨Nat.le_of_ble_eq_true rfl, Nat.le_of_ble_eq_true rfl⟩) rfl rfl rfl rfl (by decide) rfl rfl rfl rfl rfl rfl (Nat.le_of_ble_eq_true rfl) ⟨Nat.zero_le _, Nat.zero_le _⟩ dX12_heightWith_8 ?_
  refine a_aloadn (pc := 11) (j := 0) F dX12_heightWith_11 rfl rfl ?_
  refine a_iconst (pc := 12) F dX12_heightWith_12 kc_2 ?_
  refine a_iloadn (pc := 13) (j := 1) F dX12_heightWith_13 rfl rfl ?_
  refine a_imul (pc := 14) F dX12_heightWith_14 ?_
  obtain ⟨t2, ht2, hf⟩ := bd_some hf
  refine a_callV (pc := 15) (bs' := [bX12 y a0 v0]) (kb := 0) (j := 0) F [0] (c_X12_loadOf l D y ek n a0 _ _ _ ht2) (cwV 1 F.1.2.2.2.2 (gV q7_92 q7_94 qs_57 q1_11 q7_95) rfl rfl rfl (by decide +kernel) ⟨Nat.le_of_ble_eq_true rfl, Nat.le_of_ble_eq_true rfl⟩) rfl rfl rfl rfl (by decide) rfl rfl rfl rfl rfl rfl (Nat.le_of_ble_eq_true rfl) ⟨Nat.zero_le _, Nat.zero_le _⟩ dX12_heightWith_15 ?_
  refine a_isub (pc := 18) F dX12_heightWith_18 ?_
  refine a_aloadn (pc := 19) (j := 0) F dX12_heightWith_19 rfl rfl ?_
  refine a_iloadn (pc := 20) (j := 2) F dX12_heightWith_20 rfl rfl ?_
  obtain ⟨t3, ht3, hf⟩ := bd_some hf
  refine a_callV (pc := 21) (bs' := [bX12 y a0 v0]) (kb := 0) (j := 0) F [0] (c_X12_weightOf l D y ek n a0 _ _ _ ht3) (cwV 1 F.1.2.2.2.2 (gV q7_104 q7_106 qs_60 q1_11 q7_107) rfl rfl rfl (by decide +kernel) ⟨Nat.le_of_ble_eq_true rfl, Nat.le_of_ble_eq_true rfl⟩) rfl rfl rfl rfl (by decide) rfl rfl rfl rfl rfl rfl (Nat.le_of_ble_eq_true rfl) ⟨Nat.zero_le _, Nat.zero_le _⟩ dX12_heightWith_21 ?_
  refine a_isub (pc := 24) F dX12_heightWith_24 ?_
  refine a_iconst (pc := 25) F dX12_heightWith_25 kc_5 ?_
  refine a_iloadn (pc := 26) (j := 3) F dX12_heightWith_26 rfl rfl ?_
  refine a_imul (pc := 27) F dX12_heightWith_27 ?_
  refine a_isub (pc := 28) F dX12_heightWith_28 ?_
  obtain ⟨t4, ht4, hf⟩ := bd_some hf
  refine a_callV (pc := 29) (bs' := [bX12 y a0 v0]) (kb := 0) (j := 0) F [0] (c_X12_tiltBy l D y ek n a0 _ _ _ ht4) (cwV 1 F.1.2.2.2.2 (gV q7_115 q7_117 qs_62 q1_11 q7_118) rfl rfl rfl (by decide +kernel) ⟨Nat.le_of_ble_eq_true rfl, Nat.le_of_ble_eq_true rfl⟩) rfl rfl rfl rfl (by decide) rfl rfl rfl rfl rfl rfl (Nat.le_of_ble_eq_true rfl) ⟨Nat.zero_le _, Nat.zero_le _⟩ dX12_heightWith_29 ?_
  refine a_iadd (pc := 32) F dX12_heightWith_32 ?_
  obtain rfl := Option.some.inj hf
  exact hret _ _ _ _ (Nat.zero_le _) (Nat.zero_le _) rfl dX12_heightWith_33

abbrev wX12_fits : List Cond := Cond.code yX12_fits cX12_fits 5 (some .boolean) :: WALL
def m_X12_fits (n : Nat) (v0 : St) (x1 : Int32) (x2 : Int32) : Option (Int32) :=
bd (m_X12_goneOnes n v0) (fun t1 =>
bd ((if (x2 &&& (t1 ^^^ (-1))) = 0 then
some 1
else
some 0)) (fun (t2 : Int32) =>
bd (lp (fun (rc4 : Int32 × Int32 → Option (Int32)) (x4l : Int32 × Int32) =>
(if (v0 11 0) ≤ x4l.2 then
some x4l.1
else
(if x4l.1 = 0 then
some x4l.1
else
(if ix x4l.2 400 then bd (m_X12_heightWith n v0 x1 x2 (v0 8 (x4l.2).toNatClampNeg)) (fun t6 =>
(if ix (x4l.2 + 1) 400 then bd ((if t6 = (v0 8 ((x4l.2 + 1)).toNatClampNeg) then
some 1
else
some 0)) (fun (t8 : Int32) =>
rc4 (t8, (x4l.2 + 2))) else none)) else none)))) n (t2, 0)) (fun (t3 : Int32) =>
(if isb t3 then some t3 else none))))
set_option maxHeartbeats 4000000 in
set_option maxRecDepth 100000 in
theorem c_X12_fits (l : Launch) (D : va_G) (y : Nat → ClassId) (ek : EK) (n : Nat) (a0 : Nat → Nat) (v0 : St) (x1 : Int32) (x2 : Int32) (res : Int32) (hf : m_X12_fits n v0 x1 x2 = some res) : CI l yX12_fits wX12_fits { frames := 5, cells := 0, slots := 0, locals := 110 } D y ek [.ref (a0 0), .int x1, .int x2] [bX12 y a0 v0] (res) [bX12 y a0 v0] 0 0 := by
  unfold m_X12_fits at hf
  refine ci_of (cc := cX12_fits) (maxL := 5) (by decide) rfl rfl (Nat.le_of_ble_eq_true rfl) ?_
  intro p e s m below meth c Q A F hret
  refine a_lv (lv' := [(0, .ref (a0 0)), (1, .int x1), (2, .int x2)]) rfl ?_
  refine a_iloadn (pc := 0) (j := 2) F dX12_fits_0 rfl rfl ?_
  refine a_aloadn (pc := 1) (j := 0) F dX12_fits_1 rfl rfl ?_
  obtain ⟨t1, ht1, hf⟩ := bd_some hf
  refine a_callV (pc := 2) (bs' := [bX12 y a0 v0]) (kb := 0) (j := 0) F [0] (c_X12_goneOnes l D y ek n a0 _ _ ht1) (cwV 0 F.1.2.2.2.2 (gV q8_32 q8_34 qs_87 q1_11 q8_35) rfl rfl rfl (by decide +kernel) ⟨Nat.le_of_ble_eq_true rfl, Nat.le_of_ble_eq_true rfl⟩) rfl rfl rfl rfl (by decide) rfl rfl rfl rfl rfl rfl (Nat.le_of_ble_eq_true rfl) ⟨Nat.zero_le _, Nat.zero_le _⟩ dX12_fits_2 ?_
  refine a_iconst (pc := 5) F dX12_fits_5 kc_m1 ?_
  refine a_ixor (pc := 6) F dX12_fits_6 ?_
  refine a_iand (pc := 7) F dX12_fits_7 ?_
  refine a_join 16 (fun (t2 : Int32) => [(0, .ref (a0 0)), (1, .int x1), (2, .int x2)]) (fun (t2 : Int32) => [.int t2]) (fun (t2 : Int32) => [bX12 y a0 v0]) hf (fun t2 hf => ?_) (fun t2 hf J2 => ?_)
  · try dsimp only at hf ⊢
    refine a_istoren (pc := 16) (lv' := [(0, .ref (a0 0)), (1, .int x1), (2, .int x2), (3, .int t2)]) F [1, 2, 3, 0] dX12_fits_16 rfl (by decide) rfl ?_
    refine a_iconst (pc := 17) F dX12_fits_17 kc_0 ?_
    refine a_istore (pc := 18) (lv' := [(0, .ref (a0 0)), (1, .int x1), (2, .int x2), (3, .int t2), (4, .int 0)]) F [1, 2, 3, 4, 0] dX12_fits_18 (by decide) rfl ?_
    refine a_join 70 (fun (t3 : Int32) => [(3, .int t3)]) (fun (t3 : Int32) => []) (fun (t3 : Int32) => [bX12 y a0 v0]) hf (fun t3 hf => ?_) (fun t3 hf J3 => ?_)
    · try dsimp only at hf ⊢
      refine a_iloadn (pc := 70) (j := 0) F dX12_fits_70 rfl rfl ?_
      obtain ⟨hz, hf⟩ := gd_some hf
      obtain rfl := Option.some.inj hf
      exact hret _ _ _ _ (Nat.zero_le _) (Nat.zero_le _) (z_nar hz) dX12_fits_71
    · refine a_loop 20 (fun (x4l : Int32 × Int32) => [(0, .ref (a0 0)), (1, .int x1), (2, .int x2), (3, .int x4l.1), (4, .int x4l.2)]) (fun (x4l : Int32 × Int32) => [bX12 y a0 v0]) (fun rc4 x4l ih4 hf => ?_) hf rfl rfl
      try dsimp only at hf ⊢
      refine a_iload (pc := 20) (j := 4) F dX12_fits_20 rfl ?_
      refine a_aloadn (pc := 22) (j := 0) F dX12_fits_22 rfl rfl ?_
      refine a_get (pc := 23) (kb := 0) (j := 0) (f := 11) F iW_X12 rfl rfl rfl (by decide) (tl q6_79) (fun _ h => h) rfl dX12_fits_23 ?_
      refine a_icmp_ge (pc := 26) (tgt := 70) F dX12_fits_26 (by decide) (fun h => ?_) (fun h => ?_)
      · replace hf := it_pos h hf
        refine a_sub [3] rfl ?_
        obtain rfl := Option.some.inj hf
        exact J3
      · replace hf := it_neg h hf
        refine a_iloadn (pc := 29) (j := 3) F dX12_fits_29 rfl rfl ?_
        refine a_if_eq (pc := 30) (tgt := 70) F dX12_fits_30 (by decide) (fun h => ?_) (fun h => ?_)
        · replace hf := it_pos h hf
          refine a_sub [3] rfl ?_
          obtain rfl := Option.some.inj hf
          exact J3
        · replace hf := it_neg h hf
          refine a_aloadn (pc := 33) (j := 0) F dX12_fits_33 rfl rfl ?_
          refine a_iloadn (pc := 34) (j := 1) F dX12_fits_34 rfl rfl ?_
          refine a_iloadn (pc := 35) (j := 2) F dX12_fits_35 rfl rfl ?_
          refine a_aloadn (pc := 36) (j := 0) F dX12_fits_36 rfl rfl ?_
          refine a_get (pc := 37) (kb := 0) (j := 0) (f := 8) F iW_X12 rfl rfl rfl (by decide) (tl q6_76) (fun _ h => h) rfl dX12_fits_37 ?_
          refine a_iload (pc := 40) (j := 4) F dX12_fits_40 rfl ?_
          obtain ⟨h5, hf⟩ := gd_some hf
          refine a_bald (pc := 42) (kb := 0) (j := 6) F rfl rfl h5 dX12_fits_42 ?_
          obtain ⟨t6, ht6, hf⟩ := bd_some hf
          refine a_callV (pc := 43) (bs' := [bX12 y a0 v0]) (kb := 0) (j := 0) F [0] (c_X12_heightWith l D y ek n a0 _ _ _ _ _ ht6) (cwV 3 F.1.2.2.2.2 (gV q8_165 q8_167 qs_103 q1_11 q8_168) rfl rfl rfl (by decide +kernel) ⟨Nat.le_of_ble_eq_true rfl, Nat.le_of_ble_eq_true rfl⟩) rfl rfl rfl rfl (by decide) rfl rfl rfl rfl rfl rfl (Nat.le_of_ble_eq_true rfl) ⟨Nat.zero_le _, Nat.zero_le _⟩ dX12_fits_43 ?_
          refine a_aloadn (pc := 46) (j := 0) F dX12_fits_46 rfl rfl ?_
          refine a_get (pc := 47) (kb := 0) (j := 0) (f := 8) F iW_X12 rfl rfl rfl (by decide) (tl q6_76) (fun _ h => h) rfl dX12_fits_47 ?_
          refine a_iload (pc := 50) (j := 4) F dX12_fits_50 rfl ?_
          refine a_iconst (pc := 52) F dX12_fits_52 kc_1 ?_
          refine a_iadd (pc := 53) F dX12_fits_53 ?_
          obtain ⟨h7, hf⟩ := gd_some hf
          refine a_bald (pc := 54) (kb := 0) (j := 6) F rfl rfl h7 dX12_fits_54 ?_
          refine a_join 63 (fun (t8 : Int32) => [(0, .ref (a0 0)), (1, .int x1), (2, .int x2), (4, .int x4l.2)]) (fun (t8 : Int32) => [.int t8]) (fun (t8 : Int32) => [bX12 y a0 v0]) hf (fun t8 hf => ?_) (fun t8 hf J8 => ?_)
          · try dsimp only at hf ⊢
            refine a_istoren (pc := 63) (lv' := [(0, .ref (a0 0)), (1, .int x1), (2, .int x2), (3, .int t8), (4, .int x4l.2)]) F [1, 2, 3, 0, 4] dX12_fits_63 rfl (by decide) rfl ?_
            refine a_iinc (pc := 64) (j := 4) (v := (x4l.2 + 2)) (lv' := [(0, .ref (a0 0)), (1, .int x1), (2, .int x2), (3, .int t8), (4, .int (x4l.2 + 2))]) F [1, 2, 3, 4, 0] dX12_fits_64 rfl ki_2 (by decide) rfl ?_
            refine a_goto (pc := 67) (tgt := 20) F dX12_fits_67 (by decide) ?_
            exact ih4 (t8, (x4l.2 + 2)) hf
          · refine a_icmp_ne (pc := 55) (tgt := 62) F dX12_fits_55 (by decide) (fun h => ?_) (fun h => ?_)
            · replace hf := it_neg h hf
              refine a_iconst (pc := 62) F dX12_fits_62 kc_0 ?_
              refine a_sub [0, 1, 2, 4] rfl ?_
              obtain rfl := Option.some.inj hf
              exact J8
            · replace hf := it_pos h hf
              refine a_iconst (pc := 58) F dX12_fits_58 kc_1 ?_
              refine a_goto (pc := 59) (tgt := 63) F dX12_fits_59 (by decide) ?_
              refine a_sub [0, 1, 2, 4] rfl ?_
              obtain rfl := Option.some.inj hf
              exact J8
  · refine a_if_ne (pc := 8) (tgt := 15) F dX12_fits_8 (by decide) (fun h => ?_) (fun h => ?_)
    · replace hf := it_neg h hf
      refine a_iconst (pc := 15) F dX12_fits_15 kc_0 ?_
      obtain rfl := Option.some.inj hf
      exact J2
    · replace hf := it_pos h hf
      refine a_iconst (pc := 11) F dX12_fits_11 kc_1 ?_
      refine a_goto (pc := 12) (tgt := 16) F dX12_fits_12 (by decide) ?_
      obtain rfl := Option.some.inj hf
      exact J2

abbrev wX12_has : List Cond := Cond.code yX12_has cX12_has 6 (some .int) :: WALL
def m_X12_has (n : Nat) (v0 : St) (x1 : Int32) (x2 : Int32) : Option (Int32 × St) :=
bd (m_X12_uses n v0) (fun t1 =>
bd (m_X12_noPlank n t1 x1) (fun t2 =>
bd (m_X12_throwsIf n t1 t2 1) (fun t3 =>
(if t3.1 = 0 then
bd (m_X12_isTold n t3.2) (fun t4 =>
bd ((if t4 = 0 then
some 1
else
some 0)) (fun (t5 : Int32) =>
bd (m_X12_throwsIf n t3.2 t5 2) (fun t6 =>
(if t6.1 = 0 then
bd (m_X12_goneOnes n t6.2) (fun t7 =>
bd (lp (fun (rc9 : Int32 × Int32 × Int32 → Option (Int32 × Int32)) (x9l : Int32 × Int32 × Int32) =>
bd (m_X12_goneOnes n t6.2) (fun t10 =>
(if t10 < x9l.2.2 then
some (x9l.1, x9l.2.1)
else
bd (m_X12_fits n t6.2 x1 x9l.2.2) (fun t11 =>
bd ((if t11 = 0 then
some (x9l.1, x9l.2.1)
else
nm (x9l.2.1 &&& x9l.2.2) (fun x4_13 =>
some ((x9l.1 + 1), x4_13)))) (fun (t12 : Int32 × Int32) =>
rc9 (t12.1, t12.2, (x9l.2.2 + 1))))))) n (0, t7, 0)) (fun (t8 : Int32 × Int32) =>
(if x2 = 0 then
some (t8.1, t6.2)
else
(if t8.1 = 0 then
some (0, t6.2)
else
some (t8.2, t6.2)))))
else
some (0, t6.2)))))
else
some (0, t3.2)))))
set_option maxHeartbeats 4000000 in
set_option maxRecDepth 100000 in
theorem c_X12_has (l : Launch) (D : va_G) (y : Nat → ClassId) (ek : EK) (n : Nat) (a0 : Nat → Nat) (v0 : St) (x1 : Int32) (x2 : Int32) (res : Int32 × St) (hf : m_X12_has n v0 x1 x2 = some res) : CI l yX12_has wX12_has { frames := 6, cells := 0, slots := 0, locals := 134 } D y ek [.ref (a0 0), .int x1, .int x2] [bX12 y a0 v0] (res.1) [bX12 y a0 res.2] 0 0 := by
  unfold m_X12_has at hf
  refine ci_of (cc := cX12_has) (maxL := 6) (by decide) rfl rfl (Nat.le_of_ble_eq_true rfl) ?_
  intro p e s m below meth c Q A F hret
  refine a_lv (lv' := [(0, .ref (a0 0)), (1, .int x1), (2, .int x2)]) rfl ?_
  refine a_aloadn (pc := 0) (j := 0) F dX12_has_0 rfl rfl ?_
  obtain ⟨t1, ht1, hf⟩ := bd_some hf
  refine a_callVv (pc := 1) (bs' := [bX12 y a0 t1]) (kb := 0) (j := 0) F [0] (c_X12_uses l D y ek n a0 _ _ ht1) (cwV 0 F.1.2.2.2.2 (gV q6_161 q6_163 qs_26 q1_11 q6_164) rfl rfl rfl (by decide +kernel) ⟨Nat.le_of_ble_eq_true rfl, Nat.le_of_ble_eq_true rfl⟩) rfl rfl rfl rfl (by decide) rfl rfl rfl rfl rfl rfl (Nat.le_of_ble_eq_true rfl) ⟨Nat.zero_le _, Nat.zero_le _⟩ dX12_has_1 ?_
  refine a_aloadn (pc := 4) (j := 0) F dX12_has_4 rfl rfl ?_
  refine a_aloadn (pc := 5) (j := 0) F dX12_has_5 rfl rfl ?_
  refine a_iloadn (pc := 6) (j := 1) F dX12_has_6 rfl rfl ?_
  obtain ⟨t2, ht2, hf⟩ := bd_some hf
  refine a_callV (pc := 7) (bs' := [bX12 y a0 t1]) (kb := 0) (j := 0) F [0] (c_X12_noPlank l D y ek n a0 _ _ _ ht2) (cwV 1 F.1.2.2.2.2 (gV q7_73 q7_75 qs_53 q1_11 q7_76) rfl rfl rfl (by decide +kernel) ⟨Nat.le_of_ble_eq_true rfl, Nat.le_of_ble_eq_true rfl⟩) rfl rfl rfl rfl (by decide) rfl rfl rfl rfl rfl rfl (Nat.le_of_ble_eq_true rfl) ⟨Nat.zero_le _, Nat.zero_le _⟩ dX12_has_7 ?_
  refine a_iconst (pc := 10) F dX12_has_10 kc_1 ?_
  obtain ⟨t3, ht3, hf⟩ := bd_some hf
  refine a_callV (pc := 11) (bs' := [bX12 y a0 t3.2]) (kb := 0) (j := 0) F [0] (c_X12_throwsIf l D y ek n a0 _ _ _ _ ht3) (cwV 2 F.1.2.2.2.2 (gV q7_61 q7_63 qs_52 q1_11 q7_64) rfl rfl rfl (by decide +kernel) ⟨Nat.le_of_ble_eq_true rfl, Nat.le_of_ble_eq_true rfl⟩) rfl rfl rfl rfl (by decide) rfl rfl rfl rfl rfl rfl (Nat.le_of_ble_eq_true rfl) ⟨Nat.zero_le _, Nat.zero_le _⟩ dX12_has_11 ?_
  refine a_if_ne (pc := 14) (tgt := 37) F dX12_has_14 (by decide) (fun h => ?_) (fun h => ?_)
  · replace hf := it_neg h hf
    refine a_iconst (pc := 37) F dX12_has_37 kc_0 ?_
    obtain rfl := Option.some.inj hf
    exact hret _ _ _ _ (Nat.zero_le _) (Nat.zero_le _) rfl dX12_has_38
  · replace hf := it_pos h hf
    refine a_aloadn (pc := 17) (j := 0) F dX12_has_17 rfl rfl ?_
    refine a_aloadn (pc := 18) (j := 0) F dX12_has_18 rfl rfl ?_
    obtain ⟨t4, ht4, hf⟩ := bd_some hf
    refine a_callV (pc := 19) (bs' := [bX12 y a0 t3.2]) (kb := 0) (j := 0) F [0] (c_X12_isTold l D y ek n a0 _ _ ht4) (cwV 0 F.1.2.2.2.2 (gV q8_157 q8_159 qs_101 q1_11 q8_160) rfl rfl rfl (by decide +kernel) ⟨Nat.le_of_ble_eq_true rfl, Nat.le_of_ble_eq_true rfl⟩) rfl rfl rfl rfl (by decide) rfl rfl rfl rfl rfl rfl (Nat.le_of_ble_eq_true rfl) ⟨Nat.zero_le _, Nat.zero_le _⟩ dX12_has_19 ?_
    refine a_join 30 (fun (t5 : Int32) => [(0, .ref (a0 0)), (1, .int x1), (2, .int x2)]) (fun (t5 : Int32) => [.int t5, .ref (a0 0)]) (fun (t5 : Int32) => [bX12 y a0 t3.2]) hf (fun t5 hf => ?_) (fun t5 hf J5 => ?_)
    · try dsimp only at hf ⊢
      refine a_iconst (pc := 30) F dX12_has_30 kc_2 ?_
      obtain ⟨t6, ht6, hf⟩ := bd_some hf
      refine a_callV (pc := 31) (bs' := [bX12 y a0 t6.2]) (kb := 0) (j := 0) F [0] (c_X12_throwsIf l D y ek n a0 _ _ _ _ ht6) (cwV 2 F.1.2.2.2.2 (gV q7_61 q7_63 qs_52 q1_11 q7_64) rfl rfl rfl (by decide +kernel) ⟨Nat.le_of_ble_eq_true rfl, Nat.le_of_ble_eq_true rfl⟩) rfl rfl rfl rfl (by decide) rfl rfl rfl rfl rfl rfl (Nat.le_of_ble_eq_true rfl) ⟨Nat.zero_le _, Nat.zero_le _⟩ dX12_has_31 ?_
      refine a_if_eq (pc := 34) (tgt := 39) F dX12_has_34 (by decide) (fun h => ?_) (fun h => ?_)
      · replace hf := it_pos h hf
        refine a_iconst (pc := 39) F dX12_has_39 kc_0 ?_
        refine a_istoren (pc := 40) (lv' := [(0, .ref (a0 0)), (1, .int x1), (2, .int x2), (3, .int 0)]) F [1, 2, 3, 0] dX12_has_40 rfl (by decide) rfl ?_
        refine a_aloadn (pc := 41) (j := 0) F dX12_has_41 rfl rfl ?_
        obtain ⟨t7, ht7, hf⟩ := bd_some hf
        refine a_callV (pc := 42) (bs' := [bX12 y a0 t6.2]) (kb := 0) (j := 0) F [0] (c_X12_goneOnes l D y ek n a0 _ _ ht7) (cwV 0 F.1.2.2.2.2 (gV q8_32 q8_34 qs_87 q1_11 q8_35) rfl rfl rfl (by decide +kernel) ⟨Nat.le_of_ble_eq_true rfl, Nat.le_of_ble_eq_true rfl⟩) rfl rfl rfl rfl (by decide) rfl rfl rfl rfl rfl rfl (Nat.le_of_ble_eq_true rfl) ⟨Nat.zero_le _, Nat.zero_le _⟩ dX12_has_42 ?_
        refine a_istore (pc := 45) (lv' := [(0, .ref (a0 0)), (1, .int x1), (2, .int x2), (3, .int 0), (4, .int t7)]) F [1, 2, 3, 4, 0] dX12_has_45 (by decide) rfl ?_
        refine a_iconst (pc := 47) F dX12_has_47 kc_0 ?_
        refine a_istore (pc := 48) (lv' := [(0, .ref (a0 0)), (1, .int x1), (2, .int x2), (3, .int 0), (4, .int t7), (5, .int 0)]) F [1, 2, 3, 4, 5, 0] dX12_has_48 (by decide) rfl ?_
        refine a_join 88 (fun (t8 : Int32 × Int32) => [(2, .int x2), (3, .int t8.1), (4, .int t8.2)]) (fun (t8 : Int32 × Int32) => []) (fun (t8 : Int32 × Int32) => [bX12 y a0 t6.2]) hf (fun t8 hf => ?_) (fun t8 hf J8 => ?_)
        · try dsimp only at hf ⊢
          refine a_iloadn (pc := 88) (j := 0) F dX12_has_88 rfl rfl ?_
          refine a_if_ne (pc := 89) (tgt := 96) F dX12_has_89 (by decide) (fun h => ?_) (fun h => ?_)
          · replace hf := it_neg h hf
            refine a_iloadn (pc := 96) (j := 1) F dX12_has_96 rfl rfl ?_
            refine a_if_ne (pc := 97) (tgt := 104) F dX12_has_97 (by decide) (fun h => ?_) (fun h => ?_)
            · replace hf := it_neg h hf
              refine a_iload (pc := 104) (j := 2) F dX12_has_104 rfl ?_
              obtain rfl := Option.some.inj hf
              exact hret _ _ _ _ (Nat.zero_le _) (Nat.zero_le _) rfl dX12_has_106
            · replace hf := it_pos h hf
              refine a_iconst (pc := 100) F dX12_has_100 kc_0 ?_
              refine a_goto (pc := 101) (tgt := 106) F dX12_has_101 (by decide) ?_
              obtain rfl := Option.some.inj hf
              exact hret _ _ _ _ (Nat.zero_le _) (Nat.zero_le _) rfl dX12_has_106
          · replace hf := it_pos h hf
            refine a_iloadn (pc := 92) (j := 1) F dX12_has_92 rfl rfl ?_
            refine a_goto (pc := 93) (tgt := 106) F dX12_has_93 (by decide) ?_
            obtain rfl := Option.some.inj hf
            exact hret _ _ _ _ (Nat.zero_le _) (Nat.zero_le _) rfl dX12_has_106
        · refine a_loop 50 (fun (x9l : Int32 × Int32 × Int32) => [(0, .ref (a0 0)), (1, .int x1), (2, .int x2), (3, .int x9l.1), (4, .int x9l.2.1), (5, .int x9l.2.2)]) (fun (x9l : Int32 × Int32 × Int32) => [bX12 y a0 t6.2]) (fun rc9 x9l ih9 hf => ?_) hf rfl rfl
          try dsimp only at hf ⊢
          refine a_iload (pc := 50) (j := 5) F dX12_has_50 rfl ?_
          refine a_aloadn (pc := 52) (j := 0) F dX12_has_52 rfl rfl ?_
          obtain ⟨t10, ht10, hf⟩ := bd_some hf
          refine a_callV (pc := 53) (bs' := [bX12 y a0 t6.2]) (kb := 0) (j := 0) F [0] (c_X12_goneOnes l D y ek n a0 _ _ ht10) (cwV 0 F.1.2.2.2.2 (gV q8_32 q8_34 qs_87 q1_11 q8_35) rfl rfl rfl (by decide +kernel) ⟨Nat.le_of_ble_eq_true rfl, Nat.le_of_ble_eq_true rfl⟩) rfl rfl rfl rfl (by decide) rfl rfl rfl rfl rfl rfl (Nat.le_of_ble_eq_true rfl) ⟨Nat.zero_le _, Nat.zero_le _⟩ dX12_has_53 ?_
          refine a_icmp_gt (pc := 56) (tgt := 88) F dX12_has_56 (by decide) (fun h => ?_) (fun h => ?_)
          · replace hf := it_pos h hf
            refine a_sub [2, 3, 4] rfl ?_
            obtain rfl := Option.some.inj hf
            exact J8
          · replace hf := it_neg h hf
            refine a_aloadn (pc := 59) (j := 0) F dX12_has_59 rfl rfl ?_
            refine a_iloadn (pc := 60) (j := 1) F dX12_has_60 rfl rfl ?_
            refine a_iload (pc := 61) (j := 5) F dX12_has_61 rfl ?_
            obtain ⟨t11, ht11, hf⟩ := bd_some hf
            refine a_callV (pc := 63) (bs' := [bX12 y a0 t6.2]) (kb := 0) (j := 0) F [0] (c_X12_fits l D y ek n a0 _ _ _ _ ht11) (cwV 2 F.1.2.2.2.2 (gV q8_161 q8_163 qs_102 q1_11 q8_164) rfl rfl rfl (by decide +kernel) ⟨Nat.le_of_ble_eq_true rfl, Nat.le_of_ble_eq_true rfl⟩) rfl rfl rfl rfl (by decide) rfl rfl rfl rfl rfl rfl (Nat.le_of_ble_eq_true rfl) ⟨Nat.zero_le _, Nat.zero_le _⟩ dX12_has_63 ?_
            refine a_join 82 (fun (t12 : Int32 × Int32) => [(0, .ref (a0 0)), (1, .int x1), (2, .int x2), (3, .int t12.1), (4, .int t12.2), (5, .int x9l.2.2)]) (fun (t12 : Int32 × Int32) => []) (fun (t12 : Int32 × Int32) => [bX12 y a0 t6.2]) hf (fun t12 hf => ?_) (fun t12 hf J12 => ?_)
            · try dsimp only at hf ⊢
              refine a_iinc (pc := 82) (j := 5) (v := (x9l.2.2 + 1)) (lv' := [(0, .ref (a0 0)), (1, .int x1), (2, .int x2), (3, .int t12.1), (4, .int t12.2), (5, .int (x9l.2.2 + 1))]) F [1, 2, 3, 4, 5, 0] dX12_has_82 rfl ki_1 (by decide) rfl ?_
              refine a_goto (pc := 85) (tgt := 50) F dX12_has_85 (by decide) ?_
              exact ih9 (t12.1, t12.2, (x9l.2.2 + 1)) hf
            · refine a_if_ne (pc := 66) (tgt := 72) F dX12_has_66 (by decide) (fun h => ?_) (fun h => ?_)
              · replace hf := it_neg h hf
                refine a_iinc (pc := 72) (j := 3) (v := (x9l.1 + 1)) (lv' := [(0, .ref (a0 0)), (1, .int x1), (2, .int x2), (3, .int (x9l.1 + 1)), (4, .int x9l.2.1), (5, .int x9l.2.2)]) F [1, 2, 3, 0, 4, 5] dX12_has_72 rfl ki_1 (by decide) rfl ?_
                refine a_iload (pc := 75) (j := 4) F dX12_has_75 rfl ?_
                refine a_iload (pc := 77) (j := 5) F dX12_has_77 rfl ?_
                refine a_iand (pc := 79) F dX12_has_79 ?_
                obtain ⟨x4_13, ex4_13, hf⟩ := nm_some hf
                refine a_nmi ex4_13 ?_
                refine a_istore (pc := 80) (lv' := [(0, .ref (a0 0)), (1, .int x1), (2, .int x2), (3, .int (x9l.1 + 1)), (4, .int x4_13), (5, .int x9l.2.2)]) F [1, 2, 3, 4, 0, 5] dX12_has_80 (by decide) rfl ?_
                obtain rfl := Option.some.inj hf
                exact J12
              · replace hf := it_pos h hf
                refine a_goto (pc := 69) (tgt := 82) F dX12_has_69 (by decide) ?_
                obtain rfl := Option.some.inj hf
                exact J12
      · replace hf := it_neg h hf
        refine a_iconst (pc := 37) F dX12_has_37 kc_0 ?_
        obtain rfl := Option.some.inj hf
        exact hret _ _ _ _ (Nat.zero_le _) (Nat.zero_le _) rfl dX12_has_38
    · refine a_if_ne (pc := 22) (tgt := 29) F dX12_has_22 (by decide) (fun h => ?_) (fun h => ?_)
      · replace hf := it_neg h hf
        refine a_iconst (pc := 29) F dX12_has_29 kc_0 ?_
        obtain rfl := Option.some.inj hf
        exact J5
      · replace hf := it_pos h hf
        refine a_iconst (pc := 25) F dX12_has_25 kc_1 ?_
        refine a_goto (pc := 26) (tgt := 30) F dX12_has_26 (by decide) ?_
        obtain rfl := Option.some.inj hf
        exact J5

abbrev wX12_greatestPart : List Cond := Cond.code yX12_greatestPart cX12_greatestPart 5 (some .int) :: WALL
def m_X12_greatestPart (n : Nat) (v0 : St) (x1 : Int32) (x2 : Int32) : Option (Int32 × St) :=
bd (lp (fun (rc14 : Int32 × St → Option (St)) (x14l : Int32 × St) =>
(if 10 < x14l.1 then
some x14l.2
else
(if ix x14l.1 11 then nm (su x14l.2 19 (x14l.1).toNatClampNeg 0) (fun u16 =>
rc14 ((x14l.1 + 1), u16)) else none))) n (0, v0)) (fun (t1 : St) =>
bd (lp (fun (rc6 : Int32 × St → Option (St)) (x6l : Int32 × St) =>
bd (m_X12_goneOnes n x6l.2) (fun t7 =>
(if t7 < x6l.1 then
some x6l.2
else
bd (m_X12_fits n x6l.2 x1 x6l.1) (fun t8 =>
bd ((if t8 = 0 then
some x6l.2
else
bd (m_X12_heightWith n x6l.2 x1 x6l.1 x2) (fun t10 =>
(if ix t10 11 then (if ix t10 11 then nm (su x6l.2 19 (t10).toNatClampNeg ((x6l.2 19 (t10).toNatClampNeg) + 1)) (fun u13 =>
some u13) else none) else none)))) (fun (t9 : St) =>
rc6 ((x6l.1 + 1), t9)))))) n (0, t1)) (fun (t2 : St) =>
lp (fun (rc3 : Int32 × Int32 → Option (Int32 × St)) (x3l : Int32 × Int32) =>
(if 10 < x3l.2 then
some (x3l.1, t2)
else
(if ix x3l.2 11 then nm (x_max x3l.1 (t2 19 (x3l.2).toNatClampNeg)) (fun x3_5 =>
rc3 (x3_5, (x3l.2 + 1))) else none))) n (0, 0)))
set_option maxHeartbeats 4000000 in
set_option maxRecDepth 100000 in
theorem c_X12_greatestPart (l : Launch) (D : va_G) (y : Nat → ClassId) (ek : EK) (n : Nat) (a0 : Nat → Nat) (v0 : St) (x1 : Int32) (x2 : Int32) (res : Int32 × St) (hf : m_X12_greatestPart n v0 x1 x2 = some res) : CI l yX12_greatestPart wX12_greatestPart { frames := 6, cells := 0, slots := 0, locals := 134 } D y ek [.ref (a0 0), .int x1, .int x2] [bX12 y a0 v0] (res.1) [bX12 y a0 res.2] 0 0 := by
  unfold m_X12_greatestPart at hf
  refine ci_of (cc := cX12_greatestPart) (maxL := 5) (by decide) rfl rfl (Nat.le_of_ble_eq_true rfl) ?_
  intro p e s m below meth c Q A F hret
  refine a_lv (lv' := [(0, .ref (a0 0)), (1, .int x1), (2, .int x2)]) rfl ?_
  refine a_iconst (pc := 0) F dX12_greatestPart_0 kc_0 ?_
  refine a_istoren (pc := 1) (lv' := [(0, .ref (a0 0)), (1, .int x1), (2, .int x2), (3, .int 0)]) F [1, 2, 3, 0] dX12_greatestPart_1 rfl (by decide) rfl ?_
  refine a_join 21 (fun (t1 : St) => [(0, .ref (a0 0)), (1, .int x1), (2, .int x2)]) (fun (t1 : St) => []) (fun (t1 : St) => [bX12 y a0 t1]) hf (fun t1 hf => ?_) (fun t1 hf J1 => ?_)
  · try dsimp only at hf ⊢
    refine a_iconst (pc := 21) F dX12_greatestPart_21 kc_0 ?_
    refine a_istoren (pc := 22) (lv' := [(0, .ref (a0 0)), (1, .int x1), (2, .int x2), (3, .int 0)]) F [1, 2, 3, 0] dX12_greatestPart_22 rfl (by decide) rfl ?_
    refine a_join 62 (fun (t2 : St) => [(0, .ref (a0 0))]) (fun (t2 : St) => []) (fun (t2 : St) => [bX12 y a0 t2]) hf (fun t2 hf => ?_) (fun t2 hf J2 => ?_)
    · try dsimp only at hf ⊢
      refine a_iconst (pc := 62) F dX12_greatestPart_62 kc_0 ?_
      refine a_istoren (pc := 63) (lv' := [(0, .ref (a0 0)), (3, .int 0)]) F [1, 0] dX12_greatestPart_63 rfl (by decide) rfl ?_
      refine a_iconst (pc := 64) F dX12_greatestPart_64 kc_0 ?_
      refine a_istore (pc := 65) (lv' := [(0, .ref (a0 0)), (3, .int 0), (4, .int 0)]) F [1, 2, 0] dX12_greatestPart_65 (by decide) rfl ?_
      refine a_loop 67 (fun (x3l : Int32 × Int32) => [(0, .ref (a0 0)), (3, .int x3l.1), (4, .int x3l.2)]) (fun (x3l : Int32 × Int32) => [bX12 y a0 t2]) (fun rc3 x3l ih3 hf => ?_) hf rfl rfl
      try dsimp only at hf ⊢
      refine a_iload (pc := 67) (j := 2) F dX12_greatestPart_67 rfl ?_
      refine a_bipush (pc := 69) F dX12_greatestPart_69 kb_10 ?_
      refine a_icmp_gt (pc := 71) (tgt := 92) F dX12_greatestPart_71 (by decide) (fun h => ?_) (fun h => ?_)
      · replace hf := it_pos h hf
        refine a_iloadn (pc := 92) (j := 1) F dX12_greatestPart_92 rfl rfl ?_
        obtain rfl := Option.some.inj hf
        exact hret _ _ _ _ (Nat.zero_le _) (Nat.zero_le _) rfl dX12_greatestPart_93
      · replace hf := it_neg h hf
        refine a_iloadn (pc := 74) (j := 1) F dX12_greatestPart_74 rfl rfl ?_
        refine a_aloadn (pc := 75) (j := 0) F dX12_greatestPart_75 rfl rfl ?_
        refine a_get (pc := 76) (kb := 0) (j := 0) (f := 19) F iW_X12 rfl rfl rfl (by decide) (tl q6_87) (fun _ h => h) rfl dX12_greatestPart_76 ?_
        refine a_iload (pc := 79) (j := 2) F dX12_greatestPart_79 rfl ?_
        obtain ⟨h4, hf⟩ := gd_some hf
        refine a_iald (pc := 81) (kb := 0) (j := 10) F rfl rfl h4 dX12_greatestPart_81 ?_
        refine a_mmax (pc := 82) F (tl q7_120) (tl q2_173) (tl q1_22) (tl q_math_max) (Nat.le_of_ble_eq_true rfl) (Nat.le_of_ble_eq_true rfl) (Nat.zero_le _) (Nat.zero_le _) dX12_greatestPart_82 ?_
        obtain ⟨x3_5, ex3_5, hf⟩ := nm_some hf
        refine a_nmi ex3_5 ?_
        refine a_istoren (pc := 85) (lv' := [(0, .ref (a0 0)), (3, .int x3_5), (4, .int x3l.2)]) F [1, 0, 2] dX12_greatestPart_85 rfl (by decide) rfl ?_
        refine a_iinc (pc := 86) (j := 2) (v := (x3l.2 + 1)) (lv' := [(0, .ref (a0 0)), (3, .int x3_5), (4, .int (x3l.2 + 1))]) F [1, 2, 0] dX12_greatestPart_86 rfl ki_1 (by decide) rfl ?_
        refine a_goto (pc := 89) (tgt := 67) F dX12_greatestPart_89 (by decide) ?_
        exact ih3 (x3_5, (x3l.2 + 1)) hf
    · refine a_loop 23 (fun (x6l : Int32 × St) => [(0, .ref (a0 0)), (1, .int x1), (2, .int x2), (3, .int x6l.1)]) (fun (x6l : Int32 × St) => [bX12 y a0 x6l.2]) (fun rc6 x6l ih6 hf => ?_) hf rfl rfl
      try dsimp only at hf ⊢
      refine a_iloadn (pc := 23) (j := 3) F dX12_greatestPart_23 rfl rfl ?_
      refine a_aloadn (pc := 24) (j := 0) F dX12_greatestPart_24 rfl rfl ?_
      obtain ⟨t7, ht7, hf⟩ := bd_some hf
      refine a_callV (pc := 25) (bs' := [bX12 y a0 x6l.2]) (kb := 0) (j := 0) F [0] (c_X12_goneOnes l D y ek n a0 _ _ ht7) (cwV 0 F.1.2.2.2.2 (gV q8_32 q8_34 qs_87 q1_11 q8_35) rfl rfl rfl (by decide +kernel) ⟨Nat.le_of_ble_eq_true rfl, Nat.le_of_ble_eq_true rfl⟩) rfl rfl rfl rfl (by decide) rfl rfl rfl rfl rfl rfl (Nat.le_of_ble_eq_true rfl) ⟨Nat.zero_le _, Nat.zero_le _⟩ dX12_greatestPart_25 ?_
      refine a_icmp_gt (pc := 28) (tgt := 62) F dX12_greatestPart_28 (by decide) (fun h => ?_) (fun h => ?_)
      · replace hf := it_pos h hf
        refine a_sub [0] rfl ?_
        obtain rfl := Option.some.inj hf
        exact J2
      · replace hf := it_neg h hf
        refine a_aloadn (pc := 31) (j := 0) F dX12_greatestPart_31 rfl rfl ?_
        refine a_iloadn (pc := 32) (j := 1) F dX12_greatestPart_32 rfl rfl ?_
        refine a_iloadn (pc := 33) (j := 3) F dX12_greatestPart_33 rfl rfl ?_
        obtain ⟨t8, ht8, hf⟩ := bd_some hf
        refine a_callV (pc := 34) (bs' := [bX12 y a0 x6l.2]) (kb := 0) (j := 0) F [0] (c_X12_fits l D y ek n a0 _ _ _ _ ht8) (cwV 2 F.1.2.2.2.2 (gV q8_161 q8_163 qs_102 q1_11 q8_164) rfl rfl rfl (by decide +kernel) ⟨Nat.le_of_ble_eq_true rfl, Nat.le_of_ble_eq_true rfl⟩) rfl rfl rfl rfl (by decide) rfl rfl rfl rfl rfl rfl (Nat.le_of_ble_eq_true rfl) ⟨Nat.zero_le _, Nat.zero_le _⟩ dX12_greatestPart_34 ?_
        refine a_join 56 (fun (t9 : St) => [(0, .ref (a0 0)), (1, .int x1), (2, .int x2), (3, .int x6l.1)]) (fun (t9 : St) => []) (fun (t9 : St) => [bX12 y a0 t9]) hf (fun t9 hf => ?_) (fun t9 hf J9 => ?_)
        · try dsimp only at hf ⊢
          refine a_iinc (pc := 56) (j := 3) (v := (x6l.1 + 1)) (lv' := [(0, .ref (a0 0)), (1, .int x1), (2, .int x2), (3, .int (x6l.1 + 1))]) F [1, 2, 3, 0] dX12_greatestPart_56 rfl ki_1 (by decide) rfl ?_
          refine a_goto (pc := 59) (tgt := 23) F dX12_greatestPart_59 (by decide) ?_
          exact ih6 ((x6l.1 + 1), t9) hf
        · refine a_if_eq (pc := 37) (tgt := 56) F dX12_greatestPart_37 (by decide) (fun h => ?_) (fun h => ?_)
          · replace hf := it_pos h hf
            obtain rfl := Option.some.inj hf
            exact J9
          · replace hf := it_neg h hf
            refine a_aloadn (pc := 40) (j := 0) F dX12_greatestPart_40 rfl rfl ?_
            refine a_get (pc := 41) (kb := 0) (j := 0) (f := 19) F iW_X12 rfl rfl rfl (by decide) (tl q6_87) (fun _ h => h) rfl dX12_greatestPart_41 ?_
            refine a_aloadn (pc := 44) (j := 0) F dX12_greatestPart_44 rfl rfl ?_
            refine a_iloadn (pc := 45) (j := 1) F dX12_greatestPart_45 rfl rfl ?_
            refine a_iloadn (pc := 46) (j := 3) F dX12_greatestPart_46 rfl rfl ?_
            refine a_iloadn (pc := 47) (j := 2) F dX12_greatestPart_47 rfl rfl ?_
            obtain ⟨t10, ht10, hf⟩ := bd_some hf
            refine a_callV (pc := 48) (bs' := [bX12 y a0 x6l.2]) (kb := 0) (j := 0) F [0] (c_X12_heightWith l D y ek n a0 _ _ _ _ _ ht10) (cwV 3 F.1.2.2.2.2 (gV q8_165 q8_167 qs_103 q1_11 q8_168) rfl rfl rfl (by decide +kernel) ⟨Nat.le_of_ble_eq_true rfl, Nat.le_of_ble_eq_true rfl⟩) rfl rfl rfl rfl (by decide) rfl rfl rfl rfl rfl rfl (Nat.le_of_ble_eq_true rfl) ⟨Nat.zero_le _, Nat.zero_le _⟩ dX12_greatestPart_48 ?_
            refine a_dup2 (pc := 51) F dX12_greatestPart_51 rfl rfl ?_
            obtain ⟨h11, hf⟩ := gd_some hf
            refine a_iald (pc := 52) (kb := 0) (j := 10) F rfl rfl h11 dX12_greatestPart_52 ?_
            refine a_iconst (pc := 53) F dX12_greatestPart_53 kc_1 ?_
            refine a_iadd (pc := 54) F dX12_greatestPart_54 ?_
            obtain ⟨h12, hf⟩ := gd_some hf
            obtain ⟨u13, eu13, hf⟩ := nm_some hf
            refine a_iast (pc := 55) (kb := 0) (j := 10) (bs' := [bX12 y a0 u13]) F rfl rfl h12 (by rw [eu13]; rfl) dX12_greatestPart_55 ?_
            obtain rfl := Option.some.inj hf
            exact J9
  · refine a_loop 2 (fun (x14l : Int32 × St) => [(0, .ref (a0 0)), (1, .int x1), (2, .int x2), (3, .int x14l.1)]) (fun (x14l : Int32 × St) => [bX12 y a0 x14l.2]) (fun rc14 x14l ih14 hf => ?_) hf rfl rfl
    try dsimp only at hf ⊢
    refine a_iloadn (pc := 2) (j := 3) F dX12_greatestPart_2 rfl rfl ?_
    refine a_bipush (pc := 3) F dX12_greatestPart_3 kb_10 ?_
    refine a_icmp_gt (pc := 5) (tgt := 21) F dX12_greatestPart_5 (by decide) (fun h => ?_) (fun h => ?_)
    · replace hf := it_pos h hf
      refine a_sub [0, 1, 2] rfl ?_
      obtain rfl := Option.some.inj hf
      exact J1
    · replace hf := it_neg h hf
      refine a_aloadn (pc := 8) (j := 0) F dX12_greatestPart_8 rfl rfl ?_
      refine a_get (pc := 9) (kb := 0) (j := 0) (f := 19) F iW_X12 rfl rfl rfl (by decide) (tl q6_87) (fun _ h => h) rfl dX12_greatestPart_9 ?_
      refine a_iloadn (pc := 12) (j := 3) F dX12_greatestPart_12 rfl rfl ?_
      refine a_iconst (pc := 13) F dX12_greatestPart_13 kc_0 ?_
      obtain ⟨h15, hf⟩ := gd_some hf
      obtain ⟨u16, eu16, hf⟩ := nm_some hf
      refine a_iast (pc := 14) (kb := 0) (j := 10) (bs' := [bX12 y a0 u16]) F rfl rfl h15 (by rw [eu16]; rfl) dX12_greatestPart_14 ?_
      refine a_iinc (pc := 15) (j := 3) (v := (x14l.1 + 1)) (lv' := [(0, .ref (a0 0)), (1, .int x1), (2, .int x2), (3, .int (x14l.1 + 1))]) F [1, 2, 3, 0] dX12_greatestPart_15 rfl ki_1 (by decide) rfl ?_
      refine a_goto (pc := 18) (tgt := 2) F dX12_greatestPart_18 (by decide) ?_
      exact ih14 ((x14l.1 + 1), u16) hf

abbrev wX12_ask : List Cond := Cond.code yX12_ask cX12_ask 7 (some .int) :: WALL
def m_X12_ask (n : Nat) (v0 : St) (x1 : Int32) : Option (Int32 × St) :=
bd (m_X12_uses n v0) (fun t1 =>
bd (m_X12_noPlank n t1 x1) (fun t2 =>
bd (m_X12_throwsIf n t1 t2 1) (fun t3 =>
(if t3.1 = 0 then
bd (m_X12_isTold n t3.2) (fun t4 =>
bd ((if t4 = 0 then
some 1
else
some 0)) (fun (t5 : Int32) =>
bd (m_X12_throwsIf n t3.2 t5 2) (fun t6 =>
(if t6.1 = 0 then
bd (lp (fun (rc13 : Int32 × Int32 → Option (Int32)) (x13l : Int32 × Int32) =>
bd (m_X12_goneOnes n t6.2) (fun t14 =>
(if t14 < x13l.2 then
some x13l.1
else
bd (m_X12_fits n t6.2 x1 x13l.2) (fun t15 =>
bd ((if t15 = 0 then
some 0
else
some 1)) (fun (t16 : Int32) =>
nm (x13l.1 + t16) (fun x2_17 =>
rc13 (x2_17, (x13l.2 + 1)))))))) n (0, 0)) (fun (t7 : Int32) =>
bd (lp (fun (rc9 : Int32 × Int32 × Int32 × St → Option (Int32 × St)) (x9l : Int32 × Int32 × Int32 × St) =>
(if 20 < x9l.2.2.1 then
some (x9l.1, x9l.2.2.2)
else
(if t7 ≤ 1 then
some (x9l.1, x9l.2.2.2)
else
bd (m_X12_greatestPart n x9l.2.2.2 x1 x9l.2.2.1) (fun t10 =>
bd ((if x9l.2.1 ≤ t10.1 then
some x9l.1
else
some x9l.2.2.1)) (fun (t11 : Int32) =>
nm (x_min x9l.2.1 t10.1) (fun x4_12 =>
rc9 (t11, x4_12, (x9l.2.2.1 + 1), t10.2))))))) n ((-1), 1000000, 0, t6.2)) (fun (t8 : Int32 × St) =>
some (t8.1, t8.2)))
else
some (0, t6.2)))))
else
some (0, t3.2)))))
set_option maxHeartbeats 4000000 in
set_option maxRecDepth 100000 in
theorem c_X12_ask (l : Launch) (D : va_G) (y : Nat → ClassId) (ek : EK) (n : Nat) (a0 : Nat → Nat) (v0 : St) (x1 : Int32) (res : Int32 × St) (hf : m_X12_ask n v0 x1 = some res) : CI l yX12_ask wX12_ask { frames := 7, cells := 0, slots := 0, locals := 158 } D y ek [.ref (a0 0), .int x1] [bX12 y a0 v0] (res.1) [bX12 y a0 res.2] 0 0 := by
  unfold m_X12_ask at hf
  refine ci_of (cc := cX12_ask) (maxL := 7) (by decide) rfl rfl (Nat.le_of_ble_eq_true rfl) ?_
  intro p e s m below meth c Q A F hret
  refine a_lv (lv' := [(0, .ref (a0 0)), (1, .int x1)]) rfl ?_
  refine a_aloadn (pc := 0) (j := 0) F dX12_ask_0 rfl rfl ?_
  obtain ⟨t1, ht1, hf⟩ := bd_some hf
  refine a_callVv (pc := 1) (bs' := [bX12 y a0 t1]) (kb := 0) (j := 0) F [0] (c_X12_uses l D y ek n a0 _ _ ht1) (cwV 0 F.1.2.2.2.2 (gV q6_161 q6_163 qs_26 q1_11 q6_164) rfl rfl rfl (by decide +kernel) ⟨Nat.le_of_ble_eq_true rfl, Nat.le_of_ble_eq_true rfl⟩) rfl rfl rfl rfl (by decide) rfl rfl rfl rfl rfl rfl (Nat.le_of_ble_eq_true rfl) ⟨Nat.zero_le _, Nat.zero_le _⟩ dX12_ask_1 ?_
  refine a_aloadn (pc := 4) (j := 0) F dX12_ask_4 rfl rfl ?_
  refine a_aloadn (pc := 5) (j := 0) F dX12_ask_5 rfl rfl ?_
  refine a_iloadn (pc := 6) (j := 1) F dX12_ask_6 rfl rfl ?_
  obtain ⟨t2, ht2, hf⟩ := bd_some hf
  refine a_callV (pc := 7) (bs' := [bX12 y a0 t1]) (kb := 0) (j := 0) F [0] (c_X12_noPlank l D y ek n a0 _ _ _ ht2) (cwV 1 F.1.2.2.2.2 (gV q7_73 q7_75 qs_53 q1_11 q7_76) rfl rfl rfl (by decide +kernel) ⟨Nat.le_of_ble_eq_true rfl, Nat.le_of_ble_eq_true rfl⟩) rfl rfl rfl rfl (by decide) rfl rfl rfl rfl rfl rfl (Nat.le_of_ble_eq_true rfl) ⟨Nat.zero_le _, Nat.zero_le _⟩ dX12_ask_7 ?_
  refine a_iconst (pc := 10) F dX12_ask_10 kc_1 ?_
  obtain ⟨t3, ht3, hf⟩ := bd_some hf
  refine a_callV (pc := 11) (bs' := [bX12 y a0 t3.2]) (kb := 0) (j := 0) F [0] (c_X12_throwsIf l D y ek n a0 _ _ _ _ ht3) (cwV 2 F.1.2.2.2.2 (gV q7_61 q7_63 qs_52 q1_11 q7_64) rfl rfl rfl (by decide +kernel) ⟨Nat.le_of_ble_eq_true rfl, Nat.le_of_ble_eq_true rfl⟩) rfl rfl rfl rfl (by decide) rfl rfl rfl rfl rfl rfl (Nat.le_of_ble_eq_true rfl) ⟨Nat.zero_le _, Nat.zero_le _⟩ dX12_ask_11 ?_
  refine a_if_ne (pc := 14) (tgt := 37) F dX12_ask_14 (by decide) (fun h => ?_) (fun h => ?_)
  · replace hf := it_neg h hf
    refine a_iconst (pc := 37) F dX12_ask_37 kc_0 ?_
    obtain rfl := Option.some.inj hf
    exact hret _ _ _ _ (Nat.zero_le _) (Nat.zero_le _) rfl dX12_ask_38
  · replace hf := it_pos h hf
    refine a_aloadn (pc := 17) (j := 0) F dX12_ask_17 rfl rfl ?_
    refine a_aloadn (pc := 18) (j := 0) F dX12_ask_18 rfl rfl ?_
    obtain ⟨t4, ht4, hf⟩ := bd_some hf
    refine a_callV (pc := 19) (bs' := [bX12 y a0 t3.2]) (kb := 0) (j := 0) F [0] (c_X12_isTold l D y ek n a0 _ _ ht4) (cwV 0 F.1.2.2.2.2 (gV q8_157 q8_159 qs_101 q1_11 q8_160) rfl rfl rfl (by decide +kernel) ⟨Nat.le_of_ble_eq_true rfl, Nat.le_of_ble_eq_true rfl⟩) rfl rfl rfl rfl (by decide) rfl rfl rfl rfl rfl rfl (Nat.le_of_ble_eq_true rfl) ⟨Nat.zero_le _, Nat.zero_le _⟩ dX12_ask_19 ?_
    refine a_join 30 (fun (t5 : Int32) => [(0, .ref (a0 0)), (1, .int x1)]) (fun (t5 : Int32) => [.int t5, .ref (a0 0)]) (fun (t5 : Int32) => [bX12 y a0 t3.2]) hf (fun t5 hf => ?_) (fun t5 hf J5 => ?_)
    · try dsimp only at hf ⊢
      refine a_iconst (pc := 30) F dX12_ask_30 kc_2 ?_
      obtain ⟨t6, ht6, hf⟩ := bd_some hf
      refine a_callV (pc := 31) (bs' := [bX12 y a0 t6.2]) (kb := 0) (j := 0) F [0] (c_X12_throwsIf l D y ek n a0 _ _ _ _ ht6) (cwV 2 F.1.2.2.2.2 (gV q7_61 q7_63 qs_52 q1_11 q7_64) rfl rfl rfl (by decide +kernel) ⟨Nat.le_of_ble_eq_true rfl, Nat.le_of_ble_eq_true rfl⟩) rfl rfl rfl rfl (by decide) rfl rfl rfl rfl rfl rfl (Nat.le_of_ble_eq_true rfl) ⟨Nat.zero_le _, Nat.zero_le _⟩ dX12_ask_31 ?_
      refine a_if_eq (pc := 34) (tgt := 39) F dX12_ask_34 (by decide) (fun h => ?_) (fun h => ?_)
      · replace hf := it_pos h hf
        refine a_iconst (pc := 39) F dX12_ask_39 kc_0 ?_
        refine a_istoren (pc := 40) (lv' := [(0, .ref (a0 0)), (1, .int x1), (2, .int 0)]) F [1, 2, 0] dX12_ask_40 rfl (by decide) rfl ?_
        refine a_iconst (pc := 41) F dX12_ask_41 kc_0 ?_
        refine a_istoren (pc := 42) (lv' := [(0, .ref (a0 0)), (1, .int x1), (2, .int 0), (3, .int 0)]) F [1, 2, 3, 0] dX12_ask_42 rfl (by decide) rfl ?_
        refine a_join 74 (fun (t7 : Int32) => [(0, .ref (a0 0)), (1, .int x1), (2, .int t7)]) (fun (t7 : Int32) => []) (fun (t7 : Int32) => [bX12 y a0 t6.2]) hf (fun t7 hf => ?_) (fun t7 hf J7 => ?_)
        · try dsimp only at hf ⊢
          refine a_iconst (pc := 74) F dX12_ask_74 kc_m1 ?_
          refine a_istoren (pc := 75) (lv' := [(0, .ref (a0 0)), (1, .int x1), (2, .int t7), (3, .int (-1))]) F [1, 2, 3, 0] dX12_ask_75 rfl (by decide) rfl ?_
          refine a_ldcw (pc := 76) (v := 1000000) F (tl q8_125) dX12_ask_76 ?_
          refine a_istore (pc := 79) (lv' := [(0, .ref (a0 0)), (1, .int x1), (2, .int t7), (3, .int (-1)), (4, .int 1000000)]) F [1, 2, 3, 4, 0] dX12_ask_79 (by decide) rfl ?_
          refine a_iconst (pc := 81) F dX12_ask_81 kc_0 ?_
          refine a_istore (pc := 82) (lv' := [(0, .ref (a0 0)), (1, .int x1), (2, .int t7), (3, .int (-1)), (4, .int 1000000), (5, .int 0)]) F [1, 2, 3, 4, 5, 0] dX12_ask_82 (by decide) rfl ?_
          refine a_join 134 (fun (t8 : Int32 × St) => [(3, .int t8.1)]) (fun (t8 : Int32 × St) => []) (fun (t8 : Int32 × St) => [bX12 y a0 t8.2]) hf (fun t8 hf => ?_) (fun t8 hf J8 => ?_)
          · try dsimp only at hf ⊢
            refine a_iloadn (pc := 134) (j := 0) F dX12_ask_134 rfl rfl ?_
            obtain rfl := Option.some.inj hf
            exact hret _ _ _ _ (Nat.zero_le _) (Nat.zero_le _) rfl dX12_ask_135
          · refine a_loop 84 (fun (x9l : Int32 × Int32 × Int32 × St) => [(0, .ref (a0 0)), (1, .int x1), (2, .int t7), (3, .int x9l.1), (4, .int x9l.2.1), (5, .int x9l.2.2.1)]) (fun (x9l : Int32 × Int32 × Int32 × St) => [bX12 y a0 x9l.2.2.2]) (fun rc9 x9l ih9 hf => ?_) hf rfl rfl
            try dsimp only at hf ⊢
            refine a_iload (pc := 84) (j := 5) F dX12_ask_84 rfl ?_
            refine a_bipush (pc := 86) F dX12_ask_86 kb_20 ?_
            refine a_icmp_gt (pc := 88) (tgt := 134) F dX12_ask_88 (by decide) (fun h => ?_) (fun h => ?_)
            · replace hf := it_pos h hf
              refine a_sub [3] rfl ?_
              obtain rfl := Option.some.inj hf
              exact J8
            · replace hf := it_neg h hf
              refine a_iloadn (pc := 91) (j := 2) F dX12_ask_91 rfl rfl ?_
              refine a_iconst (pc := 92) F dX12_ask_92 kc_1 ?_
              refine a_icmp_le (pc := 93) (tgt := 134) F dX12_ask_93 (by decide) (fun h => ?_) (fun h => ?_)
              · replace hf := it_pos h hf
                refine a_sub [3] rfl ?_
                obtain rfl := Option.some.inj hf
                exact J8
              · replace hf := it_neg h hf
                refine a_aloadn (pc := 96) (j := 0) F dX12_ask_96 rfl rfl ?_
                refine a_iloadn (pc := 97) (j := 1) F dX12_ask_97 rfl rfl ?_
                refine a_iload (pc := 98) (j := 5) F dX12_ask_98 rfl ?_
                obtain ⟨t10, ht10, hf⟩ := bd_some hf
                refine a_callV (pc := 100) (bs' := [bX12 y a0 t10.2]) (kb := 0) (j := 0) F [0] (c_X12_greatestPart l D y ek n a0 _ _ _ _ ht10) (cwV 2 F.1.2.2.2.2 (gV q8_173 q8_175 qs_104 q1_11 q8_176) rfl rfl rfl (by decide +kernel) ⟨Nat.le_of_ble_eq_true rfl, Nat.le_of_ble_eq_true rfl⟩) rfl rfl rfl rfl (by decide) rfl rfl rfl rfl rfl rfl (Nat.le_of_ble_eq_true rfl) ⟨Nat.zero_le _, Nat.zero_le _⟩ dX12_ask_100 ?_
                refine a_istore (pc := 103) (lv' := [(0, .ref (a0 0)), (1, .int x1), (2, .int t7), (3, .int x9l.1), (4, .int x9l.2.1), (5, .int x9l.2.2.1), (6, .int t10.1)]) F [1, 2, 3, 4, 5, 6, 0] dX12_ask_103 (by decide) rfl ?_
                refine a_iload (pc := 105) (j := 6) F dX12_ask_105 rfl ?_
                refine a_iload (pc := 107) (j := 4) F dX12_ask_107 rfl ?_
                refine a_join 118 (fun (t11 : Int32) => [(0, .ref (a0 0)), (1, .int x1), (2, .int t7), (4, .int x9l.2.1), (5, .int x9l.2.2.1), (6, .int t10.1)]) (fun (t11 : Int32) => [.int t11]) (fun (t11 : Int32) => [bX12 y a0 t10.2]) hf (fun t11 hf => ?_) (fun t11 hf J11 => ?_)
                · try dsimp only at hf ⊢
                  refine a_istoren (pc := 118) (lv' := [(0, .ref (a0 0)), (1, .int x1), (2, .int t7), (3, .int t11), (4, .int x9l.2.1), (5, .int x9l.2.2.1), (6, .int t10.1)]) F [1, 2, 3, 0, 4, 5, 6] dX12_ask_118 rfl (by decide) rfl ?_
                  refine a_iload (pc := 119) (j := 4) F dX12_ask_119 rfl ?_
                  refine a_iload (pc := 121) (j := 6) F dX12_ask_121 rfl ?_
                  refine a_mmin (pc := 123) F (tl q7_119) (tl q2_170) (tl q1_22) (tl q_math_min) (Nat.le_of_ble_eq_true rfl) (Nat.le_of_ble_eq_true rfl) (Nat.zero_le _) (Nat.zero_le _) dX12_ask_123 ?_
                  obtain ⟨x4_12, ex4_12, hf⟩ := nm_some hf
                  refine a_nmi ex4_12 ?_
                  refine a_istore (pc := 126) (lv' := [(0, .ref (a0 0)), (1, .int x1), (2, .int t7), (3, .int t11), (4, .int x4_12), (5, .int x9l.2.2.1), (6, .int t10.1)]) F [1, 2, 3, 4, 0, 5, 6] dX12_ask_126 (by decide) rfl ?_
                  refine a_iinc (pc := 128) (j := 5) (v := (x9l.2.2.1 + 1)) (lv' := [(0, .ref (a0 0)), (1, .int x1), (2, .int t7), (3, .int t11), (4, .int x4_12), (5, .int (x9l.2.2.1 + 1)), (6, .int t10.1)]) F [1, 2, 3, 4, 5, 0, 6] dX12_ask_128 rfl ki_1 (by decide) rfl ?_
                  refine a_goto (pc := 131) (tgt := 84) F dX12_ask_131 (by decide) ?_
                  refine a_sub [0, 1, 2, 3, 4, 5] rfl ?_
                  exact ih9 (t11, x4_12, (x9l.2.2.1 + 1), t10.2) hf
                · refine a_icmp_ge (pc := 109) (tgt := 117) F dX12_ask_109 (by decide) (fun h => ?_) (fun h => ?_)
                  · replace hf := it_pos h hf
                    refine a_iloadn (pc := 117) (j := 3) F dX12_ask_117 rfl rfl ?_
                    refine a_sub [0, 1, 2, 4, 5, 6] rfl ?_
                    obtain rfl := Option.some.inj hf
                    exact J11
                  · replace hf := it_neg h hf
                    refine a_iload (pc := 112) (j := 5) F dX12_ask_112 rfl ?_
                    refine a_goto (pc := 114) (tgt := 118) F dX12_ask_114 (by decide) ?_
                    refine a_sub [0, 1, 2, 4, 5, 6] rfl ?_
                    obtain rfl := Option.some.inj hf
                    exact J11
        · refine a_loop 43 (fun (x13l : Int32 × Int32) => [(0, .ref (a0 0)), (1, .int x1), (2, .int x13l.1), (3, .int x13l.2)]) (fun (x13l : Int32 × Int32) => [bX12 y a0 t6.2]) (fun rc13 x13l ih13 hf => ?_) hf rfl rfl
          try dsimp only at hf ⊢
          refine a_iloadn (pc := 43) (j := 3) F dX12_ask_43 rfl rfl ?_
          refine a_aloadn (pc := 44) (j := 0) F dX12_ask_44 rfl rfl ?_
          obtain ⟨t14, ht14, hf⟩ := bd_some hf
          refine a_callV (pc := 45) (bs' := [bX12 y a0 t6.2]) (kb := 0) (j := 0) F [0] (c_X12_goneOnes l D y ek n a0 _ _ ht14) (cwV 0 F.1.2.2.2.2 (gV q8_32 q8_34 qs_87 q1_11 q8_35) rfl rfl rfl (by decide +kernel) ⟨Nat.le_of_ble_eq_true rfl, Nat.le_of_ble_eq_true rfl⟩) rfl rfl rfl rfl (by decide) rfl rfl rfl rfl rfl rfl (Nat.le_of_ble_eq_true rfl) ⟨Nat.zero_le _, Nat.zero_le _⟩ dX12_ask_45 ?_
          refine a_icmp_gt (pc := 48) (tgt := 74) F dX12_ask_48 (by decide) (fun h => ?_) (fun h => ?_)
          · replace hf := it_pos h hf
            refine a_sub [0, 1, 2] rfl ?_
            obtain rfl := Option.some.inj hf
            exact J7
          · replace hf := it_neg h hf
            refine a_iloadn (pc := 51) (j := 2) F dX12_ask_51 rfl rfl ?_
            refine a_aloadn (pc := 52) (j := 0) F dX12_ask_52 rfl rfl ?_
            refine a_iloadn (pc := 53) (j := 1) F dX12_ask_53 rfl rfl ?_
            refine a_iloadn (pc := 54) (j := 3) F dX12_ask_54 rfl rfl ?_
            obtain ⟨t15, ht15, hf⟩ := bd_some hf
            refine a_callV (pc := 55) (bs' := [bX12 y a0 t6.2]) (kb := 0) (j := 0) F [0] (c_X12_fits l D y ek n a0 _ _ _ _ ht15) (cwV 2 F.1.2.2.2.2 (gV q8_161 q8_163 qs_102 q1_11 q8_164) rfl rfl rfl (by decide +kernel) ⟨Nat.le_of_ble_eq_true rfl, Nat.le_of_ble_eq_true rfl⟩) rfl rfl rfl rfl (by decide) rfl rfl rfl rfl rfl rfl (Nat.le_of_ble_eq_true rfl) ⟨Nat.zero_le _, Nat.zero_le _⟩ dX12_ask_55 ?_
            refine a_join 66 (fun (t16 : Int32) => [(0, .ref (a0 0)), (1, .int x1), (3, .int x13l.2)]) (fun (t16 : Int32) => [.int t16, .int x13l.1]) (fun (t16 : Int32) => [bX12 y a0 t6.2]) hf (fun t16 hf => ?_) (fun t16 hf J16 => ?_)
            · try dsimp only at hf ⊢
              refine a_iadd (pc := 66) F dX12_ask_66 ?_
              obtain ⟨x2_17, ex2_17, hf⟩ := nm_some hf
              refine a_nmi ex2_17 ?_
              refine a_istoren (pc := 67) (lv' := [(0, .ref (a0 0)), (1, .int x1), (2, .int x2_17), (3, .int x13l.2)]) F [1, 2, 0, 3] dX12_ask_67 rfl (by decide) rfl ?_
              refine a_iinc (pc := 68) (j := 3) (v := (x13l.2 + 1)) (lv' := [(0, .ref (a0 0)), (1, .int x1), (2, .int x2_17), (3, .int (x13l.2 + 1))]) F [1, 2, 3, 0] dX12_ask_68 rfl ki_1 (by decide) rfl ?_
              refine a_goto (pc := 71) (tgt := 43) F dX12_ask_71 (by decide) ?_
              exact ih13 (x2_17, (x13l.2 + 1)) hf
            · refine a_if_eq (pc := 58) (tgt := 65) F dX12_ask_58 (by decide) (fun h => ?_) (fun h => ?_)
              · replace hf := it_pos h hf
                refine a_iconst (pc := 65) F dX12_ask_65 kc_0 ?_
                refine a_sub [0, 1, 3] rfl ?_
                obtain rfl := Option.some.inj hf
                exact J16
              · replace hf := it_neg h hf
                refine a_iconst (pc := 61) F dX12_ask_61 kc_1 ?_
                refine a_goto (pc := 62) (tgt := 66) F dX12_ask_62 (by decide) ?_
                refine a_sub [0, 1, 3] rfl ?_
                obtain rfl := Option.some.inj hf
                exact J16
      · replace hf := it_neg h hf
        refine a_iconst (pc := 37) F dX12_ask_37 kc_0 ?_
        obtain rfl := Option.some.inj hf
        exact hret _ _ _ _ (Nat.zero_le _) (Nat.zero_le _) rfl dX12_ask_38
    · refine a_if_ne (pc := 22) (tgt := 29) F dX12_ask_22 (by decide) (fun h => ?_) (fun h => ?_)
      · replace hf := it_neg h hf
        refine a_iconst (pc := 29) F dX12_ask_29 kc_0 ?_
        obtain rfl := Option.some.inj hf
        exact J5
      · replace hf := it_pos h hf
        refine a_iconst (pc := 25) F dX12_ask_25 kc_1 ?_
        refine a_goto (pc := 26) (tgt := 30) F dX12_ask_26 (by decide) ?_
        obtain rfl := Option.some.inj hf
        exact J5

abbrev wX12_hasBy : List Cond := Cond.code yX12_hasBy cX12_hasBy 6 (some .int) :: WALL
def m_X12_hasBy (n : Nat) (v0 : St) (x1 : Int32) (x2 : Int32) (x3 : Int32) (x4 : Int32) : Option (Int32) :=
bd (m_X12_loadOf n v0 ((2 * x1) + 1)) (fun t1 =>
bd (m_X12_loadOf n v0 (2 * x1)) (fun t2 =>
bd (m_X12_tiltBy n v0 (((t1 + (x3 * (v0 1 6))) - t2) - (x2 * (v0 1 6)))) (fun t3 =>
(if x4 = 0 then
some ((5 - t3) - x3)
else
some ((5 + t3) - x2)))))
set_option maxHeartbeats 4000000 in
set_option maxRecDepth 100000 in
theorem c_X12_hasBy (l : Launch) (D : va_G) (y : Nat → ClassId) (ek : EK) (n : Nat) (a0 : Nat → Nat) (v0 : St) (x1 : Int32) (x2 : Int32) (x3 : Int32) (x4 : Int32) (res : Int32) (hf : m_X12_hasBy n v0 x1 x2 x3 x4 = some res) : CI l yX12_hasBy wX12_hasBy { frames := 4, cells := 0, slots := 0, locals := 87 } D y ek [.ref (a0 0), .int x1, .int x2, .int x3, .int x4] [bX12 y a0 v0] (res) [bX12 y a0 v0] 0 0 := by
  unfold m_X12_hasBy at hf
  refine ci_of (cc := cX12_hasBy) (maxL := 6) (by decide) rfl rfl (Nat.le_of_ble_eq_true rfl) ?_
  intro p e s m below meth c Q A F hret
  refine a_lv (lv' := [(0, .ref (a0 0)), (1, .int x1), (2, .int x2), (3, .int x3), (4, .int x4)]) rfl ?_
  refine a_aloadn (pc := 0) (j := 0) F dX12_hasBy_0 rfl rfl ?_
  refine a_aloadn (pc := 1) (j := 0) F dX12_hasBy_1 rfl rfl ?_
  refine a_iconst (pc := 2) F dX12_hasBy_2 kc_2 ?_
  refine a_iloadn (pc := 3) (j := 1) F dX12_hasBy_3 rfl rfl ?_
  refine a_imul (pc := 4) F dX12_hasBy_4 ?_
  refine a_iconst (pc := 5) F dX12_hasBy_5 kc_1 ?_
  refine a_iadd (pc := 6) F dX12_hasBy_6 ?_
  obtain ⟨t1, ht1, hf⟩ := bd_some hf
  refine a_callV (pc := 7) (bs' := [bX12 y a0 v0]) (kb := 0) (j := 0) F [0] (c_X12_loadOf l D y ek n a0 _ _ _ ht1) (cwV 1 F.1.2.2.2.2 (gV q7_92 q7_94 qs_57 q1_11 q7_95) rfl rfl rfl (by decide +kernel) ⟨Nat.le_of_ble_eq_true rfl, Nat.le_of_ble_eq_true rfl⟩) rfl rfl rfl rfl (by decide) rfl rfl rfl rfl rfl rfl (Nat.le_of_ble_eq_true rfl) ⟨Nat.zero_le _, Nat.zero_le _⟩ dX12_hasBy_7 ?_
  refine a_iloadn (pc := 10) (j := 3) F dX12_hasBy_10 rfl rfl ?_
  refine a_aloadn (pc := 11) (j := 0) F dX12_hasBy_11 rfl rfl ?_
  refine a_get (pc := 12) (kb := 0) (j := 0) (f := 1) F iW_X12 rfl rfl rfl (by decide) (tl q6_69) (fun _ h => h) rfl dX12_hasBy_12 ?_
  refine a_bipush (pc := 15) F dX12_hasBy_15 kb_6 ?_
  refine a_ialdc (pc := 17) (kb := 0) (j := 1) (k := 6) F rfl rfl (by decide) (by decide) dX12_hasBy_17 ?_
  refine a_imul (pc := 18) F dX12_hasBy_18 ?_
  refine a_iadd (pc := 19) F dX12_hasBy_19 ?_
  refine a_aloadn (pc := 20) (j := 0) F dX12_hasBy_20 rfl rfl ?_
  refine a_iconst (pc := 21) F dX12_hasBy_21 kc_2 ?_
  refine a_iloadn (pc := 22) (j := 1) F dX12_hasBy_22 rfl rfl ?_
  refine a_imul (pc := 23) F dX12_hasBy_23 ?_
  obtain ⟨t2, ht2, hf⟩ := bd_some hf
  refine a_callV (pc := 24) (bs' := [bX12 y a0 v0]) (kb := 0) (j := 0) F [0] (c_X12_loadOf l D y ek n a0 _ _ _ ht2) (cwV 1 F.1.2.2.2.2 (gV q7_92 q7_94 qs_57 q1_11 q7_95) rfl rfl rfl (by decide +kernel) ⟨Nat.le_of_ble_eq_true rfl, Nat.le_of_ble_eq_true rfl⟩) rfl rfl rfl rfl (by decide) rfl rfl rfl rfl rfl rfl (Nat.le_of_ble_eq_true rfl) ⟨Nat.zero_le _, Nat.zero_le _⟩ dX12_hasBy_24 ?_
  refine a_isub (pc := 27) F dX12_hasBy_27 ?_
  refine a_iloadn (pc := 28) (j := 2) F dX12_hasBy_28 rfl rfl ?_
  refine a_aloadn (pc := 29) (j := 0) F dX12_hasBy_29 rfl rfl ?_
  refine a_get (pc := 30) (kb := 0) (j := 0) (f := 1) F iW_X12 rfl rfl rfl (by decide) (tl q6_69) (fun _ h => h) rfl dX12_hasBy_30 ?_
  refine a_bipush (pc := 33) F dX12_hasBy_33 kb_6 ?_
  refine a_ialdc (pc := 35) (kb := 0) (j := 1) (k := 6) F rfl rfl (by decide) (by decide) dX12_hasBy_35 ?_
  refine a_imul (pc := 36) F dX12_hasBy_36 ?_
  refine a_isub (pc := 37) F dX12_hasBy_37 ?_
  obtain ⟨t3, ht3, hf⟩ := bd_some hf
  refine a_callV (pc := 38) (bs' := [bX12 y a0 v0]) (kb := 0) (j := 0) F [0] (c_X12_tiltBy l D y ek n a0 _ _ _ ht3) (cwV 1 F.1.2.2.2.2 (gV q7_115 q7_117 qs_62 q1_11 q7_118) rfl rfl rfl (by decide +kernel) ⟨Nat.le_of_ble_eq_true rfl, Nat.le_of_ble_eq_true rfl⟩) rfl rfl rfl rfl (by decide) rfl rfl rfl rfl rfl rfl (Nat.le_of_ble_eq_true rfl) ⟨Nat.zero_le _, Nat.zero_le _⟩ dX12_hasBy_38 ?_
  refine a_istore (pc := 41) (lv' := [(0, .ref (a0 0)), (1, .int x1), (2, .int x2), (3, .int x3), (4, .int x4), (5, .int t3)]) F [1, 2, 3, 4, 5, 0] dX12_hasBy_41 (by decide) rfl ?_
  refine a_iload (pc := 43) (j := 4) F dX12_hasBy_43 rfl ?_
  refine a_if_eq (pc := 45) (tgt := 57) F dX12_hasBy_45 (by decide) (fun h => ?_) (fun h => ?_)
  · replace hf := it_pos h hf
    refine a_iconst (pc := 57) F dX12_hasBy_57 kc_5 ?_
    refine a_iload (pc := 58) (j := 5) F dX12_hasBy_58 rfl ?_
    refine a_isub (pc := 60) F dX12_hasBy_60 ?_
    refine a_iloadn (pc := 61) (j := 3) F dX12_hasBy_61 rfl rfl ?_
    refine a_isub (pc := 62) F dX12_hasBy_62 ?_
    obtain rfl := Option.some.inj hf
    exact hret _ _ _ _ (Nat.zero_le _) (Nat.zero_le _) rfl dX12_hasBy_63
  · replace hf := it_neg h hf
    refine a_iconst (pc := 48) F dX12_hasBy_48 kc_5 ?_
    refine a_iload (pc := 49) (j := 5) F dX12_hasBy_49 rfl ?_
    refine a_iadd (pc := 51) F dX12_hasBy_51 ?_
    refine a_iloadn (pc := 52) (j := 2) F dX12_hasBy_52 rfl rfl ?_
    refine a_isub (pc := 53) F dX12_hasBy_53 ?_
    refine a_goto (pc := 54) (tgt := 63) F dX12_hasBy_54 (by decide) ?_
    obtain rfl := Option.some.inj hf
    exact hret _ _ _ _ (Nat.zero_le _) (Nat.zero_le _) rfl dX12_hasBy_63

abbrev wX12_rests : List Cond := Cond.code yX12_rests cX12_rests 6 (some .boolean) :: WALL
def m_X12_rests (n : Nat) (v0 : St) (x1 : Int32) (x2 : Int32) (x3 : Int32) : Option (Int32) :=
lp (fun (rc1 : Int32 × Int32 → Option (Int32)) (x1l : Int32 × Int32) =>
(if 3 ≤ x1l.2 then
(if isb x1l.1 then some x1l.1 else none)
else
bd (jn (fun (t3 : Unit) =>
some 0) (fun (K3 : Unit → Option (Int32)) =>
(if x1l.1 = 0 then
K3 ()
else
bd (m_X12_hasBy n v0 x1 x2 x3 1) (fun t4 =>
bd (m_X12_hasBy n v0 x1 x1l.2 x3 1) (fun t5 =>
(if t4 < t5 then
K3 ()
else
bd (m_X12_hasBy n v0 x1 x2 x3 0) (fun t6 =>
bd (m_X12_hasBy n v0 x1 x2 x1l.2 0) (fun t7 =>
(if t6 < t7 then
K3 ()
else
some 1))))))))) (fun (t2 : Int32) =>
rc1 (t2, (x1l.2 + 1))))) n (1, 0)
set_option maxHeartbeats 4000000 in
set_option maxRecDepth 100000 in
theorem c_X12_rests (l : Launch) (D : va_G) (y : Nat → ClassId) (ek : EK) (n : Nat) (a0 : Nat → Nat) (v0 : St) (x1 : Int32) (x2 : Int32) (x3 : Int32) (res : Int32) (hf : m_X12_rests n v0 x1 x2 x3 = some res) : CI l yX12_rests wX12_rests { frames := 5, cells := 0, slots := 0, locals := 112 } D y ek [.ref (a0 0), .int x1, .int x2, .int x3] [bX12 y a0 v0] (res) [bX12 y a0 v0] 0 0 := by
  unfold m_X12_rests at hf
  refine ci_of (cc := cX12_rests) (maxL := 6) (by decide) rfl rfl (Nat.le_of_ble_eq_true rfl) ?_
  intro p e s m below meth c Q A F hret
  refine a_lv (lv' := [(0, .ref (a0 0)), (1, .int x1), (2, .int x2), (3, .int x3)]) rfl ?_
  refine a_iconst (pc := 0) F dX12_rests_0 kc_1 ?_
  refine a_istore (pc := 1) (lv' := [(0, .ref (a0 0)), (1, .int x1), (2, .int x2), (3, .int x3), (4, .int 1)]) F [1, 2, 3, 4, 0] dX12_rests_1 (by decide) rfl ?_
  refine a_iconst (pc := 3) F dX12_rests_3 kc_0 ?_
  refine a_istore (pc := 4) (lv' := [(0, .ref (a0 0)), (1, .int x1), (2, .int x2), (3, .int x3), (4, .int 1), (5, .int 0)]) F [1, 2, 3, 4, 5, 0] dX12_rests_4 (by decide) rfl ?_
  refine a_loop 6 (fun (x1l : Int32 × Int32) => [(0, .ref (a0 0)), (1, .int x1), (2, .int x2), (3, .int x3), (4, .int x1l.1), (5, .int x1l.2)]) (fun (x1l : Int32 × Int32) => [bX12 y a0 v0]) (fun rc1 x1l ih1 hf => ?_) hf rfl rfl
  try dsimp only at hf ⊢
  refine a_iload (pc := 6) (j := 5) F dX12_rests_6 rfl ?_
  refine a_iconst (pc := 8) F dX12_rests_8 kc_3 ?_
  refine a_icmp_ge (pc := 9) (tgt := 70) F dX12_rests_9 (by decide) (fun h => ?_) (fun h => ?_)
  · replace hf := it_pos h hf
    refine a_iload (pc := 70) (j := 4) F dX12_rests_70 rfl ?_
    obtain ⟨hz, hf⟩ := gd_some hf
    obtain rfl := Option.some.inj hf
    exact hret _ _ _ _ (Nat.zero_le _) (Nat.zero_le _) (z_nar hz) dX12_rests_72
  · replace hf := it_neg h hf
    refine a_iload (pc := 12) (j := 4) F dX12_rests_12 rfl ?_
    refine a_join 62 (fun (t2 : Int32) => [(0, .ref (a0 0)), (1, .int x1), (2, .int x2), (3, .int x3), (5, .int x1l.2)]) (fun (t2 : Int32) => [.int t2]) (fun (t2 : Int32) => [bX12 y a0 v0]) hf (fun t2 hf => ?_) (fun t2 hf J2 => ?_)
    · try dsimp only at hf ⊢
      refine a_istore (pc := 62) (lv' := [(0, .ref (a0 0)), (1, .int x1), (2, .int x2), (3, .int x3), (4, .int t2), (5, .int x1l.2)]) F [1, 2, 3, 4, 0, 5] dX12_rests_62 (by decide) rfl ?_
      refine a_iinc (pc := 64) (j := 5) (v := (x1l.2 + 1)) (lv' := [(0, .ref (a0 0)), (1, .int x1), (2, .int x2), (3, .int x3), (4, .int t2), (5, .int (x1l.2 + 1))]) F [1, 2, 3, 4, 5, 0] dX12_rests_64 rfl ki_1 (by decide) rfl ?_
      refine a_goto (pc := 67) (tgt := 6) F dX12_rests_67 (by decide) ?_
      exact ih1 (t2, (x1l.2 + 1)) hf
    · refine a_jn 61 (fun (t3 : Unit) => [(0, .ref (a0 0)), (1, .int x1), (2, .int x2), (3, .int x3), (5, .int x1l.2)]) (fun (t3 : Unit) => []) (fun (t3 : Unit) => [bX12 y a0 v0]) hf (fun t3 hf => ?_) (fun K3 hK3 hf => ?_)
      · try dsimp only at hf ⊢
        refine a_iconst (pc := 61) F dX12_rests_61 kc_0 ?_
        obtain rfl := Option.some.inj hf
        exact J2
      · try dsimp only at hf
        refine a_if_eq (pc := 14) (tgt := 61) F dX12_rests_14 (by decide) (fun h => ?_) (fun h => ?_)
        · replace hf := it_pos h hf
          refine a_sub [0, 1, 2, 3, 5] rfl ?_
          exact hK3 () hf
        · replace hf := it_neg h hf
          refine a_aloadn (pc := 17) (j := 0) F dX12_rests_17 rfl rfl ?_
          refine a_iloadn (pc := 18) (j := 1) F dX12_rests_18 rfl rfl ?_
          refine a_iloadn (pc := 19) (j := 2) F dX12_rests_19 rfl rfl ?_
          refine a_iloadn (pc := 20) (j := 3) F dX12_rests_20 rfl rfl ?_
          refine a_iconst (pc := 21) F dX12_rests_21 kc_1 ?_
          obtain ⟨t4, ht4, hf⟩ := bd_some hf
          refine a_callV (pc := 22) (bs' := [bX12 y a0 v0]) (kb := 0) (j := 0) F [0] (c_X12_hasBy l D y ek n a0 _ _ _ _ _ _ ht4) (cwV 4 F.1.2.2.2.2 (gV q8_185 q8_187 qs_106 q1_11 q8_188) rfl rfl rfl (by decide +kernel) ⟨Nat.le_of_ble_eq_true rfl, Nat.le_of_ble_eq_true rfl⟩) rfl rfl rfl rfl (by decide) rfl rfl rfl rfl rfl rfl (Nat.le_of_ble_eq_true rfl) ⟨Nat.zero_le _, Nat.zero_le _⟩ dX12_rests_22 ?_
          refine a_aloadn (pc := 25) (j := 0) F dX12_rests_25 rfl rfl ?_
          refine a_iloadn (pc := 26) (j := 1) F dX12_rests_26 rfl rfl ?_
          refine a_iload (pc := 27) (j := 5) F dX12_rests_27 rfl ?_
          refine a_iloadn (pc := 29) (j := 3) F dX12_rests_29 rfl rfl ?_
          refine a_iconst (pc := 30) F dX12_rests_30 kc_1 ?_
          obtain ⟨t5, ht5, hf⟩ := bd_some hf
          refine a_callV (pc := 31) (bs' := [bX12 y a0 v0]) (kb := 0) (j := 0) F [0] (c_X12_hasBy l D y ek n a0 _ _ _ _ _ _ ht5) (cwV 4 F.1.2.2.2.2 (gV q8_185 q8_187 qs_106 q1_11 q8_188) rfl rfl rfl (by decide +kernel) ⟨Nat.le_of_ble_eq_true rfl, Nat.le_of_ble_eq_true rfl⟩) rfl rfl rfl rfl (by decide) rfl rfl rfl rfl rfl rfl (Nat.le_of_ble_eq_true rfl) ⟨Nat.zero_le _, Nat.zero_le _⟩ dX12_rests_31 ?_
          refine a_icmp_lt (pc := 34) (tgt := 61) F dX12_rests_34 (by decide) (fun h => ?_) (fun h => ?_)
          · replace hf := it_pos h hf
            refine a_sub [0, 1, 2, 3, 5] rfl ?_
            exact hK3 () hf
          · replace hf := it_neg h hf
            refine a_aloadn (pc := 37) (j := 0) F dX12_rests_37 rfl rfl ?_
            refine a_iloadn (pc := 38) (j := 1) F dX12_rests_38 rfl rfl ?_
            refine a_iloadn (pc := 39) (j := 2) F dX12_rests_39 rfl rfl ?_
            refine a_iloadn (pc := 40) (j := 3) F dX12_rests_40 rfl rfl ?_
            refine a_iconst (pc := 41) F dX12_rests_41 kc_0 ?_
            obtain ⟨t6, ht6, hf⟩ := bd_some hf
            refine a_callV (pc := 42) (bs' := [bX12 y a0 v0]) (kb := 0) (j := 0) F [0] (c_X12_hasBy l D y ek n a0 _ _ _ _ _ _ ht6) (cwV 4 F.1.2.2.2.2 (gV q8_185 q8_187 qs_106 q1_11 q8_188) rfl rfl rfl (by decide +kernel) ⟨Nat.le_of_ble_eq_true rfl, Nat.le_of_ble_eq_true rfl⟩) rfl rfl rfl rfl (by decide) rfl rfl rfl rfl rfl rfl (Nat.le_of_ble_eq_true rfl) ⟨Nat.zero_le _, Nat.zero_le _⟩ dX12_rests_42 ?_
            refine a_aloadn (pc := 45) (j := 0) F dX12_rests_45 rfl rfl ?_
            refine a_iloadn (pc := 46) (j := 1) F dX12_rests_46 rfl rfl ?_
            refine a_iloadn (pc := 47) (j := 2) F dX12_rests_47 rfl rfl ?_
            refine a_iload (pc := 48) (j := 5) F dX12_rests_48 rfl ?_
            refine a_iconst (pc := 50) F dX12_rests_50 kc_0 ?_
            obtain ⟨t7, ht7, hf⟩ := bd_some hf
            refine a_callV (pc := 51) (bs' := [bX12 y a0 v0]) (kb := 0) (j := 0) F [0] (c_X12_hasBy l D y ek n a0 _ _ _ _ _ _ ht7) (cwV 4 F.1.2.2.2.2 (gV q8_185 q8_187 qs_106 q1_11 q8_188) rfl rfl rfl (by decide +kernel) ⟨Nat.le_of_ble_eq_true rfl, Nat.le_of_ble_eq_true rfl⟩) rfl rfl rfl rfl (by decide) rfl rfl rfl rfl rfl rfl (Nat.le_of_ble_eq_true rfl) ⟨Nat.zero_le _, Nat.zero_le _⟩ dX12_rests_51 ?_
            refine a_icmp_lt (pc := 54) (tgt := 61) F dX12_rests_54 (by decide) (fun h => ?_) (fun h => ?_)
            · replace hf := it_pos h hf
              refine a_sub [0, 1, 2, 3, 5] rfl ?_
              exact hK3 () hf
            · replace hf := it_neg h hf
              refine a_iconst (pc := 57) F dX12_rests_57 kc_1 ?_
              refine a_goto (pc := 58) (tgt := 62) F dX12_rests_58 (by decide) ?_
              refine a_sub [0, 1, 2, 3, 5] rfl ?_
              obtain rfl := Option.some.inj hf
              exact J2

abbrev wX12_ballast : List Cond := Cond.code yX12_ballast cX12_ballast 5 (some .int) :: WALL
def m_X12_ballast (n : Nat) (v0 : St) (x1 : Int32) : Option (Int32 × St) :=
nm (su v0 0 0 0) (fun u1 =>
bd (m_X12_noPlank n u1 x1) (fun t2 =>
bd (m_X12_throwsIf n u1 t2 1) (fun t3 =>
(if t3.1 = 0 then
lp (fun (rc4 : Int32 × Int32 → Option (Int32 × St)) (x4l : Int32 × Int32) =>
(if 3 ≤ x4l.2 then
some (x4l.1, t3.2)
else
bd (lp (fun (rc6 : Int32 × Int32 → Option (Int32)) (x6l : Int32 × Int32) =>
(if 3 ≤ x6l.2 then
some x6l.1
else
bd (m_X12_rests n t3.2 x1 x4l.2 x6l.2) (fun t7 =>
bd ((if t7 = 0 then
some 0
else
some (x_shl 1 ((3 * x4l.2) + x6l.2)))) (fun (t8 : Int32) =>
nm (x6l.1 ||| t8) (fun x2_9 =>
rc6 (x2_9, (x6l.2 + 1))))))) n (x4l.1, 0)) (fun (t5 : Int32) =>
rc4 (t5, (x4l.2 + 1))))) n (0, 0)
else
some (0, t3.2)))))
set_option maxHeartbeats 4000000 in
set_option maxRecDepth 100000 in
theorem c_X12_ballast (l : Launch) (D : va_G) (y : Nat → ClassId) (ek : EK) (n : Nat) (a0 : Nat → Nat) (v0 : St) (x1 : Int32) (res : Int32 × St) (hf : m_X12_ballast n v0 x1 = some res) : CI l yX12_ballast wX12_ballast { frames := 6, cells := 0, slots := 0, locals := 137 } D y ek [.ref (a0 0), .int x1] [bX12 y a0 v0] (res.1) [bX12 y a0 res.2] 0 0 := by
  unfold m_X12_ballast at hf
  refine ci_of (cc := cX12_ballast) (maxL := 5) (by decide) rfl rfl (Nat.le_of_ble_eq_true rfl) ?_
  intro p e s m below meth c Q A F hret
  refine a_lv (lv' := [(0, .ref (a0 0)), (1, .int x1)]) rfl ?_
  refine a_aloadn (pc := 0) (j := 0) F dX12_ballast_0 rfl rfl ?_
  refine a_iconst (pc := 1) F dX12_ballast_1 kc_0 ?_
  obtain ⟨u1, eu1, hf⟩ := nm_some hf
  refine a_put (pc := 2) (kb := 0) (j := 0) (f := 0) (ty := .int) (bs' := [bX12 y a0 u1]) F iW_X12 rfl rfl rfl (by decide) (tl q6_68) (fun _ h => h) tyX12 tyX12_ok nmX12 rfl rfl rfl rfl (Nat.le_of_ble_eq_true rfl) (by rw [eu1]; rfl) dX12_ballast_2 ?_
  refine a_aloadn (pc := 5) (j := 0) F dX12_ballast_5 rfl rfl ?_
  refine a_aloadn (pc := 6) (j := 0) F dX12_ballast_6 rfl rfl ?_
  refine a_iloadn (pc := 7) (j := 1) F dX12_ballast_7 rfl rfl ?_
  obtain ⟨t2, ht2, hf⟩ := bd_some hf
  refine a_callV (pc := 8) (bs' := [bX12 y a0 u1]) (kb := 0) (j := 0) F [0] (c_X12_noPlank l D y ek n a0 _ _ _ ht2) (cwV 1 F.1.2.2.2.2 (gV q7_73 q7_75 qs_53 q1_11 q7_76) rfl rfl rfl (by decide +kernel) ⟨Nat.le_of_ble_eq_true rfl, Nat.le_of_ble_eq_true rfl⟩) rfl rfl rfl rfl (by decide) rfl rfl rfl rfl rfl rfl (Nat.le_of_ble_eq_true rfl) ⟨Nat.zero_le _, Nat.zero_le _⟩ dX12_ballast_8 ?_
  refine a_iconst (pc := 11) F dX12_ballast_11 kc_1 ?_
  obtain ⟨t3, ht3, hf⟩ := bd_some hf
  refine a_callV (pc := 12) (bs' := [bX12 y a0 t3.2]) (kb := 0) (j := 0) F [0] (c_X12_throwsIf l D y ek n a0 _ _ _ _ ht3) (cwV 2 F.1.2.2.2.2 (gV q7_61 q7_63 qs_52 q1_11 q7_64) rfl rfl rfl (by decide +kernel) ⟨Nat.le_of_ble_eq_true rfl, Nat.le_of_ble_eq_true rfl⟩) rfl rfl rfl rfl (by decide) rfl rfl rfl rfl rfl rfl (Nat.le_of_ble_eq_true rfl) ⟨Nat.zero_le _, Nat.zero_le _⟩ dX12_ballast_12 ?_
  refine a_if_eq (pc := 15) (tgt := 20) F dX12_ballast_15 (by decide) (fun h => ?_) (fun h => ?_)
  · replace hf := it_pos h hf
    refine a_iconst (pc := 20) F dX12_ballast_20 kc_0 ?_
    refine a_istoren (pc := 21) (lv' := [(0, .ref (a0 0)), (1, .int x1), (2, .int 0)]) F [1, 2, 0] dX12_ballast_21 rfl (by decide) rfl ?_
    refine a_iconst (pc := 22) F dX12_ballast_22 kc_0 ?_
    refine a_istoren (pc := 23) (lv' := [(0, .ref (a0 0)), (1, .int x1), (2, .int 0), (3, .int 0)]) F [1, 2, 3, 0] dX12_ballast_23 rfl (by decide) rfl ?_
    refine a_loop 24 (fun (x4l : Int32 × Int32) => [(0, .ref (a0 0)), (1, .int x1), (2, .int x4l.1), (3, .int x4l.2)]) (fun (x4l : Int32 × Int32) => [bX12 y a0 t3.2]) (fun rc4 x4l ih4 hf => ?_) hf rfl rfl
    try dsimp only at hf ⊢
    refine a_iloadn (pc := 24) (j := 3) F dX12_ballast_24 rfl rfl ?_
    refine a_iconst (pc := 25) F dX12_ballast_25 kc_3 ?_
    refine a_icmp_ge (pc := 26) (tgt := 76) F dX12_ballast_26 (by decide) (fun h => ?_) (fun h => ?_)
    · replace hf := it_pos h hf
      refine a_iloadn (pc := 76) (j := 2) F dX12_ballast_76 rfl rfl ?_
      obtain rfl := Option.some.inj hf
      exact hret _ _ _ _ (Nat.zero_le _) (Nat.zero_le _) rfl dX12_ballast_77
    · replace hf := it_neg h hf
      refine a_iconst (pc := 29) F dX12_ballast_29 kc_0 ?_
      refine a_istore (pc := 30) (lv' := [(0, .ref (a0 0)), (1, .int x1), (2, .int x4l.1), (3, .int x4l.2), (4, .int 0)]) F [1, 2, 3, 4, 0] dX12_ballast_30 (by decide) rfl ?_
      refine a_join 70 (fun (t5 : Int32) => [(0, .ref (a0 0)), (1, .int x1), (2, .int t5), (3, .int x4l.2)]) (fun (t5 : Int32) => []) (fun (t5 : Int32) => [bX12 y a0 t3.2]) hf (fun t5 hf => ?_) (fun t5 hf J5 => ?_)
      · try dsimp only at hf ⊢
        refine a_iinc (pc := 70) (j := 3) (v := (x4l.2 + 1)) (lv' := [(0, .ref (a0 0)), (1, .int x1), (2, .int t5), (3, .int (x4l.2 + 1))]) F [1, 2, 3, 0] dX12_ballast_70 rfl ki_1 (by decide) rfl ?_
        refine a_goto (pc := 73) (tgt := 24) F dX12_ballast_73 (by decide) ?_
        exact ih4 (t5, (x4l.2 + 1)) hf
      · refine a_loop 32 (fun (x6l : Int32 × Int32) => [(0, .ref (a0 0)), (1, .int x1), (2, .int x6l.1), (3, .int x4l.2), (4, .int x6l.2)]) (fun (x6l : Int32 × Int32) => [bX12 y a0 t3.2]) (fun rc6 x6l ih6 hf => ?_) hf rfl rfl
        try dsimp only at hf ⊢
        refine a_iload (pc := 32) (j := 4) F dX12_ballast_32 rfl ?_
        refine a_iconst (pc := 34) F dX12_ballast_34 kc_3 ?_
        refine a_icmp_ge (pc := 35) (tgt := 70) F dX12_ballast_35 (by decide) (fun h => ?_) (fun h => ?_)
        · replace hf := it_pos h hf
          refine a_sub [0, 1, 2, 3] rfl ?_
          obtain rfl := Option.some.inj hf
          exact J5
        · replace hf := it_neg h hf
          refine a_iloadn (pc := 38) (j := 2) F dX12_ballast_38 rfl rfl ?_
          refine a_aloadn (pc := 39) (j := 0) F dX12_ballast_39 rfl rfl ?_
          refine a_iloadn (pc := 40) (j := 1) F dX12_ballast_40 rfl rfl ?_
          refine a_iloadn (pc := 41) (j := 3) F dX12_ballast_41 rfl rfl ?_
          refine a_iload (pc := 42) (j := 4) F dX12_ballast_42 rfl ?_
          obtain ⟨t7, ht7, hf⟩ := bd_some hf
          refine a_callV (pc := 44) (bs' := [bX12 y a0 t3.2]) (kb := 0) (j := 0) F [0] (c_X12_rests l D y ek n a0 _ _ _ _ _ ht7) (cwV 3 F.1.2.2.2.2 (gV q8_181 q8_183 qs_105 q1_11 q8_184) rfl rfl rfl (by decide +kernel) ⟨Nat.le_of_ble_eq_true rfl, Nat.le_of_ble_eq_true rfl⟩) rfl rfl rfl rfl (by decide) rfl rfl rfl rfl rfl rfl (Nat.le_of_ble_eq_true rfl) ⟨Nat.zero_le _, Nat.zero_le _⟩ dX12_ballast_44 ?_
          refine a_join 62 (fun (t8 : Int32) => [(0, .ref (a0 0)), (1, .int x1), (3, .int x4l.2), (4, .int x6l.2)]) (fun (t8 : Int32) => [.int t8, .int x6l.1]) (fun (t8 : Int32) => [bX12 y a0 t3.2]) hf (fun t8 hf => ?_) (fun t8 hf J8 => ?_)
          · try dsimp only at hf ⊢
            refine a_ior (pc := 62) F dX12_ballast_62 ?_
            obtain ⟨x2_9, ex2_9, hf⟩ := nm_some hf
            refine a_nmi ex2_9 ?_
            refine a_istoren (pc := 63) (lv' := [(0, .ref (a0 0)), (1, .int x1), (2, .int x2_9), (3, .int x4l.2), (4, .int x6l.2)]) F [1, 2, 0, 3, 4] dX12_ballast_63 rfl (by decide) rfl ?_
            refine a_iinc (pc := 64) (j := 4) (v := (x6l.2 + 1)) (lv' := [(0, .ref (a0 0)), (1, .int x1), (2, .int x2_9), (3, .int x4l.2), (4, .int (x6l.2 + 1))]) F [1, 2, 3, 4, 0] dX12_ballast_64 rfl ki_1 (by decide) rfl ?_
            refine a_goto (pc := 67) (tgt := 32) F dX12_ballast_67 (by decide) ?_
            exact ih6 (x2_9, (x6l.2 + 1)) hf
          · refine a_if_eq (pc := 47) (tgt := 61) F dX12_ballast_47 (by decide) (fun h => ?_) (fun h => ?_)
            · replace hf := it_pos h hf
              refine a_iconst (pc := 61) F dX12_ballast_61 kc_0 ?_
              refine a_sub [0, 1, 3, 4] rfl ?_
              obtain rfl := Option.some.inj hf
              exact J8
            · replace hf := it_neg h hf
              refine a_iconst (pc := 50) F dX12_ballast_50 kc_1 ?_
              refine a_iconst (pc := 51) F dX12_ballast_51 kc_3 ?_
              refine a_iloadn (pc := 52) (j := 3) F dX12_ballast_52 rfl rfl ?_
              refine a_imul (pc := 53) F dX12_ballast_53 ?_
              refine a_iload (pc := 54) (j := 4) F dX12_ballast_54 rfl ?_
              refine a_iadd (pc := 56) F dX12_ballast_56 ?_
              refine a_ishl (pc := 57) F dX12_ballast_57 ?_
              refine a_goto (pc := 58) (tgt := 62) F dX12_ballast_58 (by decide) ?_
              refine a_sub [0, 1, 3, 4] rfl ?_
              obtain rfl := Option.some.inj hf
              exact J8
  · replace hf := it_neg h hf
    refine a_iconst (pc := 18) F dX12_ballast_18 kc_0 ?_
    obtain rfl := Option.some.inj hf
    exact hret _ _ _ _ (Nat.zero_le _) (Nat.zero_le _) rfl dX12_ballast_19

abbrev wX12_rich : List Cond := Cond.code yX12_rich cX12_rich 5 (some .int) :: WALL
def m_X12_rich (n : Nat) (v0 : St) : Option (Int32 × St) :=
nm (su v0 0 0 0) (fun u1 =>
lp (fun (rc2 : Int32 × Int32 × Int32 → Option (Int32 × St)) (x2l : Int32 × Int32 × Int32) =>
bd (m_X12_houses n u1) (fun t3 =>
(if t3 ≤ x2l.2.2 then
some (x2l.1, u1)
else
bd (m_X12_of n u1 x2l.2.2 0) (fun t4 =>
bd (m_X12_thingsIn n u1 x2l.2.2) (fun t5 =>
bd (m_X12_worthOf n u1 t5) (fun t6 =>
nm (t4 + t6) (fun x4_7 =>
bd ((if x4_7 ≤ x2l.2.1 then
some x2l.1
else
some x2l.2.2)) (fun (t8 : Int32) =>
nm (x_max x2l.2.1 x4_7) (fun x2_9 =>
rc2 (t8, x2_9, (x2l.2.2 + 1))))))))))) n ((-1), (-1), 0))
set_option maxHeartbeats 4000000 in
set_option maxRecDepth 100000 in
theorem c_X12_rich (l : Launch) (D : va_G) (y : Nat → ClassId) (ek : EK) (n : Nat) (a0 : Nat → Nat) (v0 : St) (res : Int32 × St) (hf : m_X12_rich n v0 = some res) : CI l yX12_rich wX12_rich { frames := 3, cells := 0, slots := 0, locals := 66 } D y ek [.ref (a0 0)] [bX12 y a0 v0] (res.1) [bX12 y a0 res.2] 0 0 := by
  unfold m_X12_rich at hf
  refine ci_of (cc := cX12_rich) (maxL := 5) (by decide) rfl rfl (Nat.le_of_ble_eq_true rfl) ?_
  intro p e s m below meth c Q A F hret
  refine a_lv (lv' := [(0, .ref (a0 0))]) rfl ?_
  refine a_aloadn (pc := 0) (j := 0) F dX12_rich_0 rfl rfl ?_
  refine a_iconst (pc := 1) F dX12_rich_1 kc_0 ?_
  obtain ⟨u1, eu1, hf⟩ := nm_some hf
  refine a_put (pc := 2) (kb := 0) (j := 0) (f := 0) (ty := .int) (bs' := [bX12 y a0 u1]) F iW_X12 rfl rfl rfl (by decide) (tl q6_68) (fun _ h => h) tyX12 tyX12_ok nmX12 rfl rfl rfl rfl (Nat.le_of_ble_eq_true rfl) (by rw [eu1]; rfl) dX12_rich_2 ?_
  refine a_iconst (pc := 5) F dX12_rich_5 kc_m1 ?_
  refine a_istoren (pc := 6) (lv' := [(0, .ref (a0 0)), (1, .int (-1))]) F [1, 0] dX12_rich_6 rfl (by decide) rfl ?_
  refine a_iconst (pc := 7) F dX12_rich_7 kc_m1 ?_
  refine a_istoren (pc := 8) (lv' := [(0, .ref (a0 0)), (1, .int (-1)), (2, .int (-1))]) F [1, 2, 0] dX12_rich_8 rfl (by decide) rfl ?_
  refine a_iconst (pc := 9) F dX12_rich_9 kc_0 ?_
  refine a_istoren (pc := 10) (lv' := [(0, .ref (a0 0)), (1, .int (-1)), (2, .int (-1)), (3, .int 0)]) F [1, 2, 3, 0] dX12_rich_10 rfl (by decide) rfl ?_
  refine a_loop 11 (fun (x2l : Int32 × Int32 × Int32) => [(0, .ref (a0 0)), (1, .int x2l.1), (2, .int x2l.2.1), (3, .int x2l.2.2)]) (fun (x2l : Int32 × Int32 × Int32) => [bX12 y a0 u1]) (fun rc2 x2l ih2 hf => ?_) hf rfl rfl
  try dsimp only at hf ⊢
  refine a_iloadn (pc := 11) (j := 3) F dX12_rich_11 rfl rfl ?_
  refine a_aloadn (pc := 12) (j := 0) F dX12_rich_12 rfl rfl ?_
  obtain ⟨t3, ht3, hf⟩ := bd_some hf
  refine a_callV (pc := 13) (bs' := [bX12 y a0 u1]) (kb := 0) (j := 0) F [0] (c_X12_houses l D y ek n a0 _ _ ht3) (cwV 0 F.1.2.2.2.2 (gV q6_220 q6_222 qs_38 q1_11 q6_223) rfl rfl rfl (by decide +kernel) ⟨Nat.le_of_ble_eq_true rfl, Nat.le_of_ble_eq_true rfl⟩) rfl rfl rfl rfl (by decide) rfl rfl rfl rfl rfl rfl (Nat.le_of_ble_eq_true rfl) ⟨Nat.zero_le _, Nat.zero_le _⟩ dX12_rich_13 ?_
  refine a_icmp_ge (pc := 16) (tgt := 62) F dX12_rich_16 (by decide) (fun h => ?_) (fun h => ?_)
  · replace hf := it_pos h hf
    refine a_iloadn (pc := 62) (j := 1) F dX12_rich_62 rfl rfl ?_
    obtain rfl := Option.some.inj hf
    exact hret _ _ _ _ (Nat.zero_le _) (Nat.zero_le _) rfl dX12_rich_63
  · replace hf := it_neg h hf
    refine a_aloadn (pc := 19) (j := 0) F dX12_rich_19 rfl rfl ?_
    refine a_iloadn (pc := 20) (j := 3) F dX12_rich_20 rfl rfl ?_
    refine a_iconst (pc := 21) F dX12_rich_21 kc_0 ?_
    obtain ⟨t4, ht4, hf⟩ := bd_some hf
    refine a_callV (pc := 22) (bs' := [bX12 y a0 u1]) (kb := 0) (j := 0) F [0] (c_X12_of l D y ek n a0 _ _ _ _ ht4) (cwV 2 F.1.2.2.2.2 (gV q7_111 q7_113 qs_61 q1_11 q7_114) rfl rfl rfl (by decide +kernel) ⟨Nat.le_of_ble_eq_true rfl, Nat.le_of_ble_eq_true rfl⟩) rfl rfl rfl rfl (by decide) rfl rfl rfl rfl rfl rfl (Nat.le_of_ble_eq_true rfl) ⟨Nat.zero_le _, Nat.zero_le _⟩ dX12_rich_22 ?_
    refine a_aloadn (pc := 25) (j := 0) F dX12_rich_25 rfl rfl ?_
    refine a_aloadn (pc := 26) (j := 0) F dX12_rich_26 rfl rfl ?_
    refine a_iloadn (pc := 27) (j := 3) F dX12_rich_27 rfl rfl ?_
    obtain ⟨t5, ht5, hf⟩ := bd_some hf
    refine a_callV (pc := 28) (bs' := [bX12 y a0 u1]) (kb := 0) (j := 0) F [0] (c_X12_thingsIn l D y ek n a0 _ _ _ ht5) (cwV 1 F.1.2.2.2.2 (gV q7_96 q7_98 qs_58 q1_11 q7_99) rfl rfl rfl (by decide +kernel) ⟨Nat.le_of_ble_eq_true rfl, Nat.le_of_ble_eq_true rfl⟩) rfl rfl rfl rfl (by decide) rfl rfl rfl rfl rfl rfl (Nat.le_of_ble_eq_true rfl) ⟨Nat.zero_le _, Nat.zero_le _⟩ dX12_rich_28 ?_
    obtain ⟨t6, ht6, hf⟩ := bd_some hf
    refine a_callV (pc := 31) (bs' := [bX12 y a0 u1]) (kb := 0) (j := 0) F [0] (c_X12_worthOf l D y ek n a0 _ _ _ ht6) (cwV 1 F.1.2.2.2.2 (gV q7_171 q7_173 qs_73 q1_11 q7_174) rfl rfl rfl (by decide +kernel) ⟨Nat.le_of_ble_eq_true rfl, Nat.le_of_ble_eq_true rfl⟩) rfl rfl rfl rfl (by decide) rfl rfl rfl rfl rfl rfl (Nat.le_of_ble_eq_true rfl) ⟨Nat.zero_le _, Nat.zero_le _⟩ dX12_rich_31 ?_
    refine a_iadd (pc := 34) F dX12_rich_34 ?_
    obtain ⟨x4_7, ex4_7, hf⟩ := nm_some hf
    refine a_nmi ex4_7 ?_
    refine a_istore (pc := 35) (lv' := [(0, .ref (a0 0)), (1, .int x2l.1), (2, .int x2l.2.1), (3, .int x2l.2.2), (4, .int x4_7)]) F [1, 2, 3, 4, 0] dX12_rich_35 (by decide) rfl ?_
    refine a_iload (pc := 37) (j := 4) F dX12_rich_37 rfl ?_
    refine a_iloadn (pc := 39) (j := 2) F dX12_rich_39 rfl rfl ?_
    refine a_join 48 (fun (t8 : Int32) => [(0, .ref (a0 0)), (2, .int x2l.2.1), (3, .int x2l.2.2), (4, .int x4_7)]) (fun (t8 : Int32) => [.int t8]) (fun (t8 : Int32) => [bX12 y a0 u1]) hf (fun t8 hf => ?_) (fun t8 hf J8 => ?_)
    · try dsimp only at hf ⊢
      refine a_istoren (pc := 48) (lv' := [(0, .ref (a0 0)), (1, .int t8), (2, .int x2l.2.1), (3, .int x2l.2.2), (4, .int x4_7)]) F [1, 0, 2, 3, 4] dX12_rich_48 rfl (by decide) rfl ?_
      refine a_iloadn (pc := 49) (j := 2) F dX12_rich_49 rfl rfl ?_
      refine a_iload (pc := 50) (j := 4) F dX12_rich_50 rfl ?_
      refine a_mmax (pc := 52) F (tl q7_120) (tl q2_173) (tl q1_22) (tl q_math_max) (Nat.le_of_ble_eq_true rfl) (Nat.le_of_ble_eq_true rfl) (Nat.zero_le _) (Nat.zero_le _) dX12_rich_52 ?_
      obtain ⟨x2_9, ex2_9, hf⟩ := nm_some hf
      refine a_nmi ex2_9 ?_
      refine a_istoren (pc := 55) (lv' := [(0, .ref (a0 0)), (1, .int t8), (2, .int x2_9), (3, .int x2l.2.2), (4, .int x4_7)]) F [1, 2, 0, 3, 4] dX12_rich_55 rfl (by decide) rfl ?_
      refine a_iinc (pc := 56) (j := 3) (v := (x2l.2.2 + 1)) (lv' := [(0, .ref (a0 0)), (1, .int t8), (2, .int x2_9), (3, .int (x2l.2.2 + 1)), (4, .int x4_7)]) F [1, 2, 3, 0, 4] dX12_rich_56 rfl ki_1 (by decide) rfl ?_
      refine a_goto (pc := 59) (tgt := 11) F dX12_rich_59 (by decide) ?_
      refine a_sub [0, 1, 2, 3] rfl ?_
      exact ih2 (t8, x2_9, (x2l.2.2 + 1)) hf
    · refine a_icmp_le (pc := 40) (tgt := 47) F dX12_rich_40 (by decide) (fun h => ?_) (fun h => ?_)
      · replace hf := it_pos h hf
        refine a_iloadn (pc := 47) (j := 1) F dX12_rich_47 rfl rfl ?_
        refine a_sub [0, 2, 3, 4] rfl ?_
        obtain rfl := Option.some.inj hf
        exact J8
      · replace hf := it_neg h hf
        refine a_iloadn (pc := 43) (j := 3) F dX12_rich_43 rfl rfl ?_
        refine a_goto (pc := 44) (tgt := 48) F dX12_rich_44 (by decide) ?_
        refine a_sub [0, 2, 3, 4] rfl ?_
        obtain rfl := Option.some.inj hf
        exact J8

abbrev wX12_heaviest : List Cond := Cond.code yX12_heaviest cX12_heaviest 3 (some .int) :: WALL
def m_X12_heaviest (n : Nat) (v0 : St) : Option (Int32 × St) :=
nm (su v0 0 0 0) (fun u1 =>
lp (fun (rc2 : Int32 × Int32 → Option (Int32 × St)) (x2l : Int32 × Int32) =>
bd (m_X12_things n u1) (fun t3 =>
(if t3 ≤ x2l.2 then
some (x2l.1, u1)
else
bd (m_X12_isGone n u1 x2l.2) (fun t4 =>
bd ((if t4 = 0 then
jn (fun (t6 : Unit) =>
some x2l.2) (fun (K6 : Unit → Option (Int32)) =>
(if x2l.1 = (-1) then
K6 ()
else
bd (m_X12_ofThing n u1 x2l.2 0) (fun t7 =>
bd (m_X12_ofThing n u1 x2l.1 0) (fun t8 =>
(if t7 ≤ t8 then
some x2l.1
else
K6 ())))))
else
some x2l.1)) (fun (t5 : Int32) =>
rc2 (t5, (x2l.2 + 1))))))) n ((-1), 0))
set_option maxHeartbeats 4000000 in
set_option maxRecDepth 100000 in
theorem c_X12_heaviest (l : Launch) (D : va_G) (y : Nat → ClassId) (ek : EK) (n : Nat) (a0 : Nat → Nat) (v0 : St) (res : Int32 × St) (hf : m_X12_heaviest n v0 = some res) : CI l yX12_heaviest wX12_heaviest { frames := 3, cells := 0, slots := 0, locals := 64 } D y ek [.ref (a0 0)] [bX12 y a0 v0] (res.1) [bX12 y a0 res.2] 0 0 := by
  unfold m_X12_heaviest at hf
  refine ci_of (cc := cX12_heaviest) (maxL := 3) (by decide) rfl rfl (Nat.le_of_ble_eq_true rfl) ?_
  intro p e s m below meth c Q A F hret
  refine a_lv (lv' := [(0, .ref (a0 0))]) rfl ?_
  refine a_aloadn (pc := 0) (j := 0) F dX12_heaviest_0 rfl rfl ?_
  refine a_iconst (pc := 1) F dX12_heaviest_1 kc_0 ?_
  obtain ⟨u1, eu1, hf⟩ := nm_some hf
  refine a_put (pc := 2) (kb := 0) (j := 0) (f := 0) (ty := .int) (bs' := [bX12 y a0 u1]) F iW_X12 rfl rfl rfl (by decide) (tl q6_68) (fun _ h => h) tyX12 tyX12_ok nmX12 rfl rfl rfl rfl (Nat.le_of_ble_eq_true rfl) (by rw [eu1]; rfl) dX12_heaviest_2 ?_
  refine a_iconst (pc := 5) F dX12_heaviest_5 kc_m1 ?_
  refine a_istoren (pc := 6) (lv' := [(0, .ref (a0 0)), (1, .int (-1))]) F [1, 0] dX12_heaviest_6 rfl (by decide) rfl ?_
  refine a_iconst (pc := 7) F dX12_heaviest_7 kc_0 ?_
  refine a_istoren (pc := 8) (lv' := [(0, .ref (a0 0)), (1, .int (-1)), (2, .int 0)]) F [1, 2, 0] dX12_heaviest_8 rfl (by decide) rfl ?_
  refine a_loop 9 (fun (x2l : Int32 × Int32) => [(0, .ref (a0 0)), (1, .int x2l.1), (2, .int x2l.2)]) (fun (x2l : Int32 × Int32) => [bX12 y a0 u1]) (fun rc2 x2l ih2 hf => ?_) hf rfl rfl
  try dsimp only at hf ⊢
  refine a_iloadn (pc := 9) (j := 2) F dX12_heaviest_9 rfl rfl ?_
  refine a_aloadn (pc := 10) (j := 0) F dX12_heaviest_10 rfl rfl ?_
  obtain ⟨t3, ht3, hf⟩ := bd_some hf
  refine a_callV (pc := 11) (bs' := [bX12 y a0 u1]) (kb := 0) (j := 0) F [0] (c_X12_things l D y ek n a0 _ _ ht3) (cwV 0 F.1.2.2.2.2 (gV q6_234 q6_236 qs_41 q1_11 q6_237) rfl rfl rfl (by decide +kernel) ⟨Nat.le_of_ble_eq_true rfl, Nat.le_of_ble_eq_true rfl⟩) rfl rfl rfl rfl (by decide) rfl rfl rfl rfl rfl rfl (Nat.le_of_ble_eq_true rfl) ⟨Nat.zero_le _, Nat.zero_le _⟩ dX12_heaviest_11 ?_
  refine a_icmp_ge (pc := 14) (tgt := 53) F dX12_heaviest_14 (by decide) (fun h => ?_) (fun h => ?_)
  · replace hf := it_pos h hf
    refine a_iloadn (pc := 53) (j := 1) F dX12_heaviest_53 rfl rfl ?_
    obtain rfl := Option.some.inj hf
    exact hret _ _ _ _ (Nat.zero_le _) (Nat.zero_le _) rfl dX12_heaviest_54
  · replace hf := it_neg h hf
    refine a_aloadn (pc := 17) (j := 0) F dX12_heaviest_17 rfl rfl ?_
    refine a_iloadn (pc := 18) (j := 2) F dX12_heaviest_18 rfl rfl ?_
    obtain ⟨t4, ht4, hf⟩ := bd_some hf
    refine a_callV (pc := 19) (bs' := [bX12 y a0 u1]) (kb := 0) (j := 0) F [0] (c_X12_isGone l D y ek n a0 _ _ _ ht4) (cwV 1 F.1.2.2.2.2 (gV q7_199 q7_201 qs_78 q1_11 q7_202) rfl rfl rfl (by decide +kernel) ⟨Nat.le_of_ble_eq_true rfl, Nat.le_of_ble_eq_true rfl⟩) rfl rfl rfl rfl (by decide) rfl rfl rfl rfl rfl rfl (Nat.le_of_ble_eq_true rfl) ⟨Nat.zero_le _, Nat.zero_le _⟩ dX12_heaviest_19 ?_
    refine a_join 47 (fun (t5 : Int32) => [(0, .ref (a0 0)), (1, .int t5), (2, .int x2l.2)]) (fun (t5 : Int32) => []) (fun (t5 : Int32) => [bX12 y a0 u1]) hf (fun t5 hf => ?_) (fun t5 hf J5 => ?_)
    · try dsimp only at hf ⊢
      refine a_iinc (pc := 47) (j := 2) (v := (x2l.2 + 1)) (lv' := [(0, .ref (a0 0)), (1, .int t5), (2, .int (x2l.2 + 1))]) F [1, 2, 0] dX12_heaviest_47 rfl ki_1 (by decide) rfl ?_
      refine a_goto (pc := 50) (tgt := 9) F dX12_heaviest_50 (by decide) ?_
      exact ih2 (t5, (x2l.2 + 1)) hf
    · refine a_if_ne (pc := 22) (tgt := 47) F dX12_heaviest_22 (by decide) (fun h => ?_) (fun h => ?_)
      · replace hf := it_neg h hf
        obtain rfl := Option.some.inj hf
        exact J5
      · replace hf := it_pos h hf
        refine a_iloadn (pc := 25) (j := 1) F dX12_heaviest_25 rfl rfl ?_
        refine a_iconst (pc := 26) F dX12_heaviest_26 kc_m1 ?_
        refine a_jn 45 (fun (t6 : Unit) => [(0, .ref (a0 0)), (2, .int x2l.2)]) (fun (t6 : Unit) => []) (fun (t6 : Unit) => [bX12 y a0 u1]) hf (fun t6 hf => ?_) (fun K6 hK6 hf => ?_)
        · try dsimp only at hf ⊢
          refine a_iloadn (pc := 45) (j := 1) F dX12_heaviest_45 rfl rfl ?_
          refine a_istoren (pc := 46) (lv' := [(0, .ref (a0 0)), (1, .int x2l.2), (2, .int x2l.2)]) F [1, 0, 2] dX12_heaviest_46 rfl (by decide) rfl ?_
          obtain rfl := Option.some.inj hf
          exact J5
        · try dsimp only at hf
          refine a_icmp_eq (pc := 27) (tgt := 45) F dX12_heaviest_27 (by decide) (fun h => ?_) (fun h => ?_)
          · replace hf := it_pos h hf
            refine a_sub [0, 2] rfl ?_
            exact hK6 () hf
          · replace hf := it_neg h hf
            refine a_aloadn (pc := 30) (j := 0) F dX12_heaviest_30 rfl rfl ?_
            refine a_iloadn (pc := 31) (j := 2) F dX12_heaviest_31 rfl rfl ?_
            refine a_iconst (pc := 32) F dX12_heaviest_32 kc_0 ?_
            obtain ⟨t7, ht7, hf⟩ := bd_some hf
            refine a_callV (pc := 33) (bs' := [bX12 y a0 u1]) (kb := 0) (j := 0) F [0] (c_X12_ofThing l D y ek n a0 _ _ _ _ ht7) (cwV 2 F.1.2.2.2.2 (gV q7_100 q7_102 qs_59 q1_11 q7_103) rfl rfl rfl (by decide +kernel) ⟨Nat.le_of_ble_eq_true rfl, Nat.le_of_ble_eq_true rfl⟩) rfl rfl rfl rfl (by decide) rfl rfl rfl rfl rfl rfl (Nat.le_of_ble_eq_true rfl) ⟨Nat.zero_le _, Nat.zero_le _⟩ dX12_heaviest_33 ?_
            refine a_aloadn (pc := 36) (j := 0) F dX12_heaviest_36 rfl rfl ?_
            refine a_iloadn (pc := 37) (j := 1) F dX12_heaviest_37 rfl rfl ?_
            refine a_iconst (pc := 38) F dX12_heaviest_38 kc_0 ?_
            obtain ⟨t8, ht8, hf⟩ := bd_some hf
            refine a_callV (pc := 39) (bs' := [bX12 y a0 u1]) (kb := 0) (j := 0) F [0] (c_X12_ofThing l D y ek n a0 _ _ _ _ ht8) (cwV 2 F.1.2.2.2.2 (gV q7_100 q7_102 qs_59 q1_11 q7_103) rfl rfl rfl (by decide +kernel) ⟨Nat.le_of_ble_eq_true rfl, Nat.le_of_ble_eq_true rfl⟩) rfl rfl rfl rfl (by decide) rfl rfl rfl rfl rfl rfl (Nat.le_of_ble_eq_true rfl) ⟨Nat.zero_le _, Nat.zero_le _⟩ dX12_heaviest_39 ?_
            refine a_icmp_le (pc := 42) (tgt := 47) F dX12_heaviest_42 (by decide) (fun h => ?_) (fun h => ?_)
            · replace hf := it_pos h hf
              obtain rfl := Option.some.inj hf
              exact J5
            · replace hf := it_neg h hf
              refine a_sub [0, 2] rfl ?_
              exact hK6 () hf

abbrev wX12_alike : List Cond := Cond.code yX12_alike cX12_alike 4 (some .int) :: WALL
def m_X12_alike (n : Nat) (v0 : St) : Option (Int32 × St) :=
nm (su v0 0 0 0) (fun u1 =>
lp (fun (rc2 : Int32 × Int32 → Option (Int32 × St)) (x2l : Int32 × Int32) =>
bd (m_X12_houses n u1) (fun t3 =>
(if t3 ≤ x2l.2 then
some (x2l.1, u1)
else
bd (lp (fun (rc5 : Int32 × Int32 → Option (Int32)) (x5l : Int32 × Int32) =>
(if x2l.2 ≤ x5l.2 then
some x5l.1
else
bd (m_X12_loadOf n u1 x2l.2) (fun t6 =>
bd (m_X12_loadOf n u1 x5l.2) (fun t7 =>
bd (jn (fun (t10 : Unit) =>
some 0) (fun (K10 : Unit → Option (Int32)) =>
(if t6 = t7 then
bd (m_X12_heightOf n u1 x2l.2) (fun t11 =>
bd (m_X12_heightOf n u1 x5l.2) (fun t12 =>
(if t11 = t12 then
some 1
else
K10 ())))
else
K10 ()))) (fun (t8 : Int32) =>
nm (x5l.1 + t8) (fun x1_9 =>
rc5 (x1_9, (x5l.2 + 1)))))))) n (x2l.1, 0)) (fun (t4 : Int32) =>
rc2 (t4, (x2l.2 + 1)))))) n (0, 0))
set_option maxHeartbeats 4000000 in
set_option maxRecDepth 100000 in
theorem c_X12_alike (l : Launch) (D : va_G) (y : Nat → ClassId) (ek : EK) (n : Nat) (a0 : Nat → Nat) (v0 : St) (res : Int32 × St) (hf : m_X12_alike n v0 = some res) : CI l yX12_alike wX12_alike { frames := 6, cells := 0, slots := 0, locals := 129 } D y ek [.ref (a0 0)] [bX12 y a0 v0] (res.1) [bX12 y a0 res.2] 0 0 := by
  unfold m_X12_alike at hf
  refine ci_of (cc := cX12_alike) (maxL := 4) (by decide) rfl rfl (Nat.le_of_ble_eq_true rfl) ?_
  intro p e s m below meth c Q A F hret
  refine a_lv (lv' := [(0, .ref (a0 0))]) rfl ?_
  refine a_aloadn (pc := 0) (j := 0) F dX12_alike_0 rfl rfl ?_
  refine a_iconst (pc := 1) F dX12_alike_1 kc_0 ?_
  obtain ⟨u1, eu1, hf⟩ := nm_some hf
  refine a_put (pc := 2) (kb := 0) (j := 0) (f := 0) (ty := .int) (bs' := [bX12 y a0 u1]) F iW_X12 rfl rfl rfl (by decide) (tl q6_68) (fun _ h => h) tyX12 tyX12_ok nmX12 rfl rfl rfl rfl (Nat.le_of_ble_eq_true rfl) (by rw [eu1]; rfl) dX12_alike_2 ?_
  refine a_iconst (pc := 5) F dX12_alike_5 kc_0 ?_
  refine a_istoren (pc := 6) (lv' := [(0, .ref (a0 0)), (1, .int 0)]) F [1, 0] dX12_alike_6 rfl (by decide) rfl ?_
  refine a_iconst (pc := 7) F dX12_alike_7 kc_0 ?_
  refine a_istoren (pc := 8) (lv' := [(0, .ref (a0 0)), (1, .int 0), (2, .int 0)]) F [1, 2, 0] dX12_alike_8 rfl (by decide) rfl ?_
  refine a_loop 9 (fun (x2l : Int32 × Int32) => [(0, .ref (a0 0)), (1, .int x2l.1), (2, .int x2l.2)]) (fun (x2l : Int32 × Int32) => [bX12 y a0 u1]) (fun rc2 x2l ih2 hf => ?_) hf rfl rfl
  try dsimp only at hf ⊢
  refine a_iloadn (pc := 9) (j := 2) F dX12_alike_9 rfl rfl ?_
  refine a_aloadn (pc := 10) (j := 0) F dX12_alike_10 rfl rfl ?_
  obtain ⟨t3, ht3, hf⟩ := bd_some hf
  refine a_callV (pc := 11) (bs' := [bX12 y a0 u1]) (kb := 0) (j := 0) F [0] (c_X12_houses l D y ek n a0 _ _ ht3) (cwV 0 F.1.2.2.2.2 (gV q6_220 q6_222 qs_38 q1_11 q6_223) rfl rfl rfl (by decide +kernel) ⟨Nat.le_of_ble_eq_true rfl, Nat.le_of_ble_eq_true rfl⟩) rfl rfl rfl rfl (by decide) rfl rfl rfl rfl rfl rfl (Nat.le_of_ble_eq_true rfl) ⟨Nat.zero_le _, Nat.zero_le _⟩ dX12_alike_11 ?_
  refine a_icmp_ge (pc := 14) (tgt := 70) F dX12_alike_14 (by decide) (fun h => ?_) (fun h => ?_)
  · replace hf := it_pos h hf
    refine a_iloadn (pc := 70) (j := 1) F dX12_alike_70 rfl rfl ?_
    obtain rfl := Option.some.inj hf
    exact hret _ _ _ _ (Nat.zero_le _) (Nat.zero_le _) rfl dX12_alike_71
  · replace hf := it_neg h hf
    refine a_iconst (pc := 17) F dX12_alike_17 kc_0 ?_
    refine a_istoren (pc := 18) (lv' := [(0, .ref (a0 0)), (1, .int x2l.1), (2, .int x2l.2), (3, .int 0)]) F [1, 2, 3, 0] dX12_alike_18 rfl (by decide) rfl ?_
    refine a_join 64 (fun (t4 : Int32) => [(0, .ref (a0 0)), (1, .int t4), (2, .int x2l.2)]) (fun (t4 : Int32) => []) (fun (t4 : Int32) => [bX12 y a0 u1]) hf (fun t4 hf => ?_) (fun t4 hf J4 => ?_)
    · try dsimp only at hf ⊢
      refine a_iinc (pc := 64) (j := 2) (v := (x2l.2 + 1)) (lv' := [(0, .ref (a0 0)), (1, .int t4), (2, .int (x2l.2 + 1))]) F [1, 2, 0] dX12_alike_64 rfl ki_1 (by decide) rfl ?_
      refine a_goto (pc := 67) (tgt := 9) F dX12_alike_67 (by decide) ?_
      exact ih2 (t4, (x2l.2 + 1)) hf
    · refine a_loop 19 (fun (x5l : Int32 × Int32) => [(0, .ref (a0 0)), (1, .int x5l.1), (2, .int x2l.2), (3, .int x5l.2)]) (fun (x5l : Int32 × Int32) => [bX12 y a0 u1]) (fun rc5 x5l ih5 hf => ?_) hf rfl rfl
      try dsimp only at hf ⊢
      refine a_iloadn (pc := 19) (j := 3) F dX12_alike_19 rfl rfl ?_
      refine a_iloadn (pc := 20) (j := 2) F dX12_alike_20 rfl rfl ?_
      refine a_icmp_ge (pc := 21) (tgt := 64) F dX12_alike_21 (by decide) (fun h => ?_) (fun h => ?_)
      · replace hf := it_pos h hf
        refine a_sub [0, 1, 2] rfl ?_
        obtain rfl := Option.some.inj hf
        exact J4
      · replace hf := it_neg h hf
        refine a_iloadn (pc := 24) (j := 1) F dX12_alike_24 rfl rfl ?_
        refine a_aloadn (pc := 25) (j := 0) F dX12_alike_25 rfl rfl ?_
        refine a_iloadn (pc := 26) (j := 2) F dX12_alike_26 rfl rfl ?_
        obtain ⟨t6, ht6, hf⟩ := bd_some hf
        refine a_callV (pc := 27) (bs' := [bX12 y a0 u1]) (kb := 0) (j := 0) F [0] (c_X12_loadOf l D y ek n a0 _ _ _ ht6) (cwV 1 F.1.2.2.2.2 (gV q7_92 q7_94 qs_57 q1_11 q7_95) rfl rfl rfl (by decide +kernel) ⟨Nat.le_of_ble_eq_true rfl, Nat.le_of_ble_eq_true rfl⟩) rfl rfl rfl rfl (by decide) rfl rfl rfl rfl rfl rfl (Nat.le_of_ble_eq_true rfl) ⟨Nat.zero_le _, Nat.zero_le _⟩ dX12_alike_27 ?_
        refine a_aloadn (pc := 30) (j := 0) F dX12_alike_30 rfl rfl ?_
        refine a_iloadn (pc := 31) (j := 3) F dX12_alike_31 rfl rfl ?_
        obtain ⟨t7, ht7, hf⟩ := bd_some hf
        refine a_callV (pc := 32) (bs' := [bX12 y a0 u1]) (kb := 0) (j := 0) F [0] (c_X12_loadOf l D y ek n a0 _ _ _ ht7) (cwV 1 F.1.2.2.2.2 (gV q7_92 q7_94 qs_57 q1_11 q7_95) rfl rfl rfl (by decide +kernel) ⟨Nat.le_of_ble_eq_true rfl, Nat.le_of_ble_eq_true rfl⟩) rfl rfl rfl rfl (by decide) rfl rfl rfl rfl rfl rfl (Nat.le_of_ble_eq_true rfl) ⟨Nat.zero_le _, Nat.zero_le _⟩ dX12_alike_32 ?_
        refine a_join 56 (fun (t8 : Int32) => [(0, .ref (a0 0)), (2, .int x2l.2), (3, .int x5l.2)]) (fun (t8 : Int32) => [.int t8, .int x5l.1]) (fun (t8 : Int32) => [bX12 y a0 u1]) hf (fun t8 hf => ?_) (fun t8 hf J8 => ?_)
        · try dsimp only at hf ⊢
          refine a_iadd (pc := 56) F dX12_alike_56 ?_
          obtain ⟨x1_9, ex1_9, hf⟩ := nm_some hf
          refine a_nmi ex1_9 ?_
          refine a_istoren (pc := 57) (lv' := [(0, .ref (a0 0)), (1, .int x1_9), (2, .int x2l.2), (3, .int x5l.2)]) F [1, 0, 2, 3] dX12_alike_57 rfl (by decide) rfl ?_
          refine a_iinc (pc := 58) (j := 3) (v := (x5l.2 + 1)) (lv' := [(0, .ref (a0 0)), (1, .int x1_9), (2, .int x2l.2), (3, .int (x5l.2 + 1))]) F [1, 2, 3, 0] dX12_alike_58 rfl ki_1 (by decide) rfl ?_
          refine a_goto (pc := 61) (tgt := 19) F dX12_alike_61 (by decide) ?_
          exact ih5 (x1_9, (x5l.2 + 1)) hf
        · refine a_jn 55 (fun (t10 : Unit) => [(0, .ref (a0 0)), (2, .int x2l.2), (3, .int x5l.2)]) (fun (t10 : Unit) => [.int x5l.1]) (fun (t10 : Unit) => [bX12 y a0 u1]) hf (fun t10 hf => ?_) (fun K10 hK10 hf => ?_)
          · try dsimp only at hf ⊢
            refine a_iconst (pc := 55) F dX12_alike_55 kc_0 ?_
            obtain rfl := Option.some.inj hf
            exact J8
          · try dsimp only at hf
            refine a_icmp_ne (pc := 35) (tgt := 55) F dX12_alike_35 (by decide) (fun h => ?_) (fun h => ?_)
            · replace hf := it_neg h hf
              refine a_sub [0, 2, 3] rfl ?_
              exact hK10 () hf
            · replace hf := it_pos h hf
              refine a_aloadn (pc := 38) (j := 0) F dX12_alike_38 rfl rfl ?_
              refine a_iloadn (pc := 39) (j := 2) F dX12_alike_39 rfl rfl ?_
              obtain ⟨t11, ht11, hf⟩ := bd_some hf
              refine a_callV (pc := 40) (bs' := [bX12 y a0 u1]) (kb := 0) (j := 0) F [0] (c_X12_heightOf l D y ek n a0 _ _ _ ht11) (cwV 1 F.1.2.2.2.2 (gV q7_145 q7_147 qs_69 q1_11 q7_148) rfl rfl rfl (by decide +kernel) ⟨Nat.le_of_ble_eq_true rfl, Nat.le_of_ble_eq_true rfl⟩) rfl rfl rfl rfl (by decide) rfl rfl rfl rfl rfl rfl (Nat.le_of_ble_eq_true rfl) ⟨Nat.zero_le _, Nat.zero_le _⟩ dX12_alike_40 ?_
              refine a_aloadn (pc := 43) (j := 0) F dX12_alike_43 rfl rfl ?_
              refine a_iloadn (pc := 44) (j := 3) F dX12_alike_44 rfl rfl ?_
              obtain ⟨t12, ht12, hf⟩ := bd_some hf
              refine a_callV (pc := 45) (bs' := [bX12 y a0 u1]) (kb := 0) (j := 0) F [0] (c_X12_heightOf l D y ek n a0 _ _ _ ht12) (cwV 1 F.1.2.2.2.2 (gV q7_145 q7_147 qs_69 q1_11 q7_148) rfl rfl rfl (by decide +kernel) ⟨Nat.le_of_ble_eq_true rfl, Nat.le_of_ble_eq_true rfl⟩) rfl rfl rfl rfl (by decide) rfl rfl rfl rfl rfl rfl (Nat.le_of_ble_eq_true rfl) ⟨Nat.zero_le _, Nat.zero_le _⟩ dX12_alike_45 ?_
              refine a_icmp_ne (pc := 48) (tgt := 55) F dX12_alike_48 (by decide) (fun h => ?_) (fun h => ?_)
              · replace hf := it_neg h hf
                refine a_sub [0, 2, 3] rfl ?_
                exact hK10 () hf
              · replace hf := it_pos h hf
                refine a_iconst (pc := 51) F dX12_alike_51 kc_1 ?_
                refine a_goto (pc := 52) (tgt := 56) F dX12_alike_52 (by decide) ?_
                refine a_sub [0, 2, 3] rfl ?_
                obtain rfl := Option.some.inj hf
                exact J8

abbrev wX12_brokenOnes : List Cond := Cond.code yX12_brokenOnes cX12_brokenOnes 3 (some .int) :: WALL
def m_X12_brokenOnes (n : Nat) (v0 : St) : Option (Int32) :=
lp (fun (rc1 : Int32 × Int32 → Option (Int32)) (x1l : Int32 × Int32) =>
bd (m_X12_planks n v0) (fun t2 =>
(if t2 ≤ x1l.2 then
some x1l.1
else
bd (m_X12_isBroken n v0 x1l.2) (fun t3 =>
bd ((if t3 = 0 then
some 0
else
some (x_shl 1 x1l.2))) (fun (t4 : Int32) =>
nm (x1l.1 ||| t4) (fun x1_5 =>
rc1 (x1_5, (x1l.2 + 1)))))))) n (0, 0)
set_option maxHeartbeats 4000000 in
set_option maxRecDepth 100000 in
theorem c_X12_brokenOnes (l : Launch) (D : va_G) (y : Nat → ClassId) (ek : EK) (n : Nat) (a0 : Nat → Nat) (v0 : St) (res : Int32) (hf : m_X12_brokenOnes n v0 = some res) : CI l yX12_brokenOnes wX12_brokenOnes { frames := 3, cells := 0, slots := 0, locals := 64 } D y ek [.ref (a0 0)] [bX12 y a0 v0] (res) [bX12 y a0 v0] 0 0 := by
  unfold m_X12_brokenOnes at hf
  refine ci_of (cc := cX12_brokenOnes) (maxL := 3) (by decide) rfl rfl (Nat.le_of_ble_eq_true rfl) ?_
  intro p e s m below meth c Q A F hret
  refine a_lv (lv' := [(0, .ref (a0 0))]) rfl ?_
  refine a_iconst (pc := 0) F dX12_brokenOnes_0 kc_0 ?_
  refine a_istoren (pc := 1) (lv' := [(0, .ref (a0 0)), (1, .int 0)]) F [1, 0] dX12_brokenOnes_1 rfl (by decide) rfl ?_
  refine a_iconst (pc := 2) F dX12_brokenOnes_2 kc_0 ?_
  refine a_istoren (pc := 3) (lv' := [(0, .ref (a0 0)), (1, .int 0), (2, .int 0)]) F [1, 2, 0] dX12_brokenOnes_3 rfl (by decide) rfl ?_
  refine a_loop 4 (fun (x1l : Int32 × Int32) => [(0, .ref (a0 0)), (1, .int x1l.1), (2, .int x1l.2)]) (fun (x1l : Int32 × Int32) => [bX12 y a0 v0]) (fun rc1 x1l ih1 hf => ?_) hf rfl rfl
  try dsimp only at hf ⊢
  refine a_iloadn (pc := 4) (j := 2) F dX12_brokenOnes_4 rfl rfl ?_
  refine a_aloadn (pc := 5) (j := 0) F dX12_brokenOnes_5 rfl rfl ?_
  obtain ⟨t2, ht2, hf⟩ := bd_some hf
  refine a_callV (pc := 6) (bs' := [bX12 y a0 v0]) (kb := 0) (j := 0) F [0] (c_X12_planks l D y ek n a0 _ _ ht2) (cwV 0 F.1.2.2.2.2 (gV q6_196 q6_198 qs_34 q1_11 q6_199) rfl rfl rfl (by decide +kernel) ⟨Nat.le_of_ble_eq_true rfl, Nat.le_of_ble_eq_true rfl⟩) rfl rfl rfl rfl (by decide) rfl rfl rfl rfl rfl rfl (Nat.le_of_ble_eq_true rfl) ⟨Nat.zero_le _, Nat.zero_le _⟩ dX12_brokenOnes_6 ?_
  refine a_icmp_ge (pc := 9) (tgt := 36) F dX12_brokenOnes_9 (by decide) (fun h => ?_) (fun h => ?_)
  · replace hf := it_pos h hf
    refine a_iloadn (pc := 36) (j := 1) F dX12_brokenOnes_36 rfl rfl ?_
    obtain rfl := Option.some.inj hf
    exact hret _ _ _ _ (Nat.zero_le _) (Nat.zero_le _) rfl dX12_brokenOnes_37
  · replace hf := it_neg h hf
    refine a_iloadn (pc := 12) (j := 1) F dX12_brokenOnes_12 rfl rfl ?_
    refine a_aloadn (pc := 13) (j := 0) F dX12_brokenOnes_13 rfl rfl ?_
    refine a_iloadn (pc := 14) (j := 2) F dX12_brokenOnes_14 rfl rfl ?_
    obtain ⟨t3, ht3, hf⟩ := bd_some hf
    refine a_callV (pc := 15) (bs' := [bX12 y a0 v0]) (kb := 0) (j := 0) F [0] (c_X12_isBroken l D y ek n a0 _ _ _ ht3) (cwV 1 F.1.2.2.2.2 (gV q7_125 q7_127 qs_64 q1_11 q7_128) rfl rfl rfl (by decide +kernel) ⟨Nat.le_of_ble_eq_true rfl, Nat.le_of_ble_eq_true rfl⟩) rfl rfl rfl rfl (by decide) rfl rfl rfl rfl rfl rfl (Nat.le_of_ble_eq_true rfl) ⟨Nat.zero_le _, Nat.zero_le _⟩ dX12_brokenOnes_15 ?_
    refine a_join 28 (fun (t4 : Int32) => [(0, .ref (a0 0)), (2, .int x1l.2)]) (fun (t4 : Int32) => [.int t4, .int x1l.1]) (fun (t4 : Int32) => [bX12 y a0 v0]) hf (fun t4 hf => ?_) (fun t4 hf J4 => ?_)
    · try dsimp only at hf ⊢
      refine a_ior (pc := 28) F dX12_brokenOnes_28 ?_
      obtain ⟨x1_5, ex1_5, hf⟩ := nm_some hf
      refine a_nmi ex1_5 ?_
      refine a_istoren (pc := 29) (lv' := [(0, .ref (a0 0)), (1, .int x1_5), (2, .int x1l.2)]) F [1, 0, 2] dX12_brokenOnes_29 rfl (by decide) rfl ?_
      refine a_iinc (pc := 30) (j := 2) (v := (x1l.2 + 1)) (lv' := [(0, .ref (a0 0)), (1, .int x1_5), (2, .int (x1l.2 + 1))]) F [1, 2, 0] dX12_brokenOnes_30 rfl ki_1 (by decide) rfl ?_
      refine a_goto (pc := 33) (tgt := 4) F dX12_brokenOnes_33 (by decide) ?_
      exact ih1 (x1_5, (x1l.2 + 1)) hf
    · refine a_if_eq (pc := 18) (tgt := 27) F dX12_brokenOnes_18 (by decide) (fun h => ?_) (fun h => ?_)
      · replace hf := it_pos h hf
        refine a_iconst (pc := 27) F dX12_brokenOnes_27 kc_0 ?_
        refine a_sub [0, 2] rfl ?_
        obtain rfl := Option.some.inj hf
        exact J4
      · replace hf := it_neg h hf
        refine a_iconst (pc := 21) F dX12_brokenOnes_21 kc_1 ?_
        refine a_iloadn (pc := 22) (j := 2) F dX12_brokenOnes_22 rfl rfl ?_
        refine a_ishl (pc := 23) F dX12_brokenOnes_23 ?_
        refine a_goto (pc := 24) (tgt := 28) F dX12_brokenOnes_24 (by decide) ?_
        refine a_sub [0, 2] rfl ?_
        obtain rfl := Option.some.inj hf
        exact J4

abbrev wX12_trial : List Cond := Cond.code yX12_trial cX12_trial 4 (some .int) :: WALL
def m_X12_trial (n : Nat) (v0 : St) (x1 : Int32) (x2 : Int32) : Option (Int32 × St) :=
nm (su v0 0 0 0) (fun u1 =>
bd (m_X12_in n x1 0 60) (fun t2 =>
bd ((if t2 = 0 then
some 1
else
some 0)) (fun (t3 : Int32) =>
bd (m_X12_throwsIf n u1 t3 1) (fun t4 =>
(if t4.1 = 0 then
bd (m_X12_keepsAll n t4.2) (fun t5 =>
bd (lp (fun (rc12 : Int32 × St → Option (St)) (x12l : Int32 × St) =>
(if x1 ≤ x12l.1 then
some x12l.2
else
bd (m_X12_oneWeek n x12l.2 0) (fun t13 =>
rc12 ((x12l.1 + 1), t13)))) n (0, t5)) (fun (t6 : St) =>
bd ((if x2 = 0 then
bd (m_X12_goneOnes n t6) (fun t9 =>
bd (m_J6_bitCount_0f7a4 n t9) (fun t10 =>
some t10))
else
bd (m_X12_brokenOnes n t6) (fun t11 =>
some t11))) (fun (t7 : Int32) =>
bd (m_X12_bringsBack n t6) (fun t8 =>
some (t7, t8)))))
else
some (0, t4.2))))))
set_option maxHeartbeats 4000000 in
set_option maxRecDepth 100000 in
theorem c_X12_trial (l : Launch) (D : va_G) (y : Nat → ClassId) (ek : EK) (n : Nat) (a0 : Nat → Nat) (v0 : St) (x1 : Int32) (x2 : Int32) (res : Int32 × St) (hf : m_X12_trial n v0 x1 x2 = some res) : CI l yX12_trial wX12_trial { frames := 14, cells := 0, slots := 0, locals := 319 } D y ek [.ref (a0 0), .int x1, .int x2] [bX12 y a0 v0] (res.1) [bX12 y a0 res.2] 0 0 := by
  unfold m_X12_trial at hf
  refine ci_of (cc := cX12_trial) (maxL := 4) (by decide) rfl rfl (Nat.le_of_ble_eq_true rfl) ?_
  intro p e s m below meth c Q A F hret
  refine a_lv (lv' := [(0, .ref (a0 0)), (1, .int x1), (2, .int x2)]) rfl ?_
  refine a_aloadn (pc := 0) (j := 0) F dX12_trial_0 rfl rfl ?_
  refine a_iconst (pc := 1) F dX12_trial_1 kc_0 ?_
  obtain ⟨u1, eu1, hf⟩ := nm_some hf
  refine a_put (pc := 2) (kb := 0) (j := 0) (f := 0) (ty := .int) (bs' := [bX12 y a0 u1]) F iW_X12 rfl rfl rfl (by decide) (tl q6_68) (fun _ h => h) tyX12 tyX12_ok nmX12 rfl rfl rfl rfl (Nat.le_of_ble_eq_true rfl) (by rw [eu1]; rfl) dX12_trial_2 ?_
  refine a_aloadn (pc := 5) (j := 0) F dX12_trial_5 rfl rfl ?_
  refine a_iloadn (pc := 6) (j := 1) F dX12_trial_6 rfl rfl ?_
  refine a_iconst (pc := 7) F dX12_trial_7 kc_0 ?_
  refine a_bipush (pc := 8) F dX12_trial_8 kb_60 ?_
  obtain ⟨t2, ht2, hf⟩ := bd_some hf
  refine a_callS (pc := 10) (bs' := [bX12 y a0 u1]) F [] (c_X12_in l D y ek n  _ _ _ _ ht2) (va_cwS 3 F.1.2.2.2.2 (gS q7_77 q7_78 q1_11 q7_79) rfl rfl rfl (by decide +kernel) ⟨Nat.le_of_ble_eq_true rfl, Nat.le_of_ble_eq_true rfl⟩) (by decide) rfl rfl rfl rfl rfl rfl (Nat.le_of_ble_eq_true rfl) ⟨Nat.zero_le _, Nat.zero_le _⟩ dX12_trial_10 ?_
  refine a_join 21 (fun (t3 : Int32) => [(0, .ref (a0 0)), (1, .int x1), (2, .int x2)]) (fun (t3 : Int32) => [.int t3, .ref (a0 0)]) (fun (t3 : Int32) => [bX12 y a0 u1]) hf (fun t3 hf => ?_) (fun t3 hf J3 => ?_)
  · try dsimp only at hf ⊢
    refine a_iconst (pc := 21) F dX12_trial_21 kc_1 ?_
    obtain ⟨t4, ht4, hf⟩ := bd_some hf
    refine a_callV (pc := 22) (bs' := [bX12 y a0 t4.2]) (kb := 0) (j := 0) F [0] (c_X12_throwsIf l D y ek n a0 _ _ _ _ ht4) (cwV 2 F.1.2.2.2.2 (gV q7_61 q7_63 qs_52 q1_11 q7_64) rfl rfl rfl (by decide +kernel) ⟨Nat.le_of_ble_eq_true rfl, Nat.le_of_ble_eq_true rfl⟩) rfl rfl rfl rfl (by decide) rfl rfl rfl rfl rfl rfl (Nat.le_of_ble_eq_true rfl) ⟨Nat.zero_le _, Nat.zero_le _⟩ dX12_trial_22 ?_
    refine a_if_eq (pc := 25) (tgt := 30) F dX12_trial_25 (by decide) (fun h => ?_) (fun h => ?_)
    · replace hf := it_pos h hf
      refine a_aloadn (pc := 30) (j := 0) F dX12_trial_30 rfl rfl ?_
      obtain ⟨t5, ht5, hf⟩ := bd_some hf
      refine a_callVv (pc := 31) (bs' := [bX12 y a0 t5]) (kb := 0) (j := 0) F [0] (c_X12_keepsAll l D y ek n a0 _ _ ht5) (cwV 0 F.1.2.2.2.2 (gV q8_3 q8_5 qs_82 q1_11 q8_6) rfl rfl rfl (by decide +kernel) ⟨Nat.le_of_ble_eq_true rfl, Nat.le_of_ble_eq_true rfl⟩) rfl rfl rfl rfl (by decide) rfl rfl rfl rfl rfl rfl (Nat.le_of_ble_eq_true rfl) ⟨Nat.zero_le _, Nat.zero_le _⟩ dX12_trial_31 ?_
      refine a_iconst (pc := 34) F dX12_trial_34 kc_0 ?_
      refine a_istoren (pc := 35) (lv' := [(0, .ref (a0 0)), (1, .int x1), (2, .int x2), (3, .int 0)]) F [1, 2, 3, 0] dX12_trial_35 rfl (by decide) rfl ?_
      refine a_join 52 (fun (t6 : St) => [(0, .ref (a0 0)), (2, .int x2)]) (fun (t6 : St) => []) (fun (t6 : St) => [bX12 y a0 t6]) hf (fun t6 hf => ?_) (fun t6 hf J6 => ?_)
      · try dsimp only at hf ⊢
        refine a_iloadn (pc := 52) (j := 1) F dX12_trial_52 rfl rfl ?_
        refine a_join 70 (fun (t7 : Int32) => [(0, .ref (a0 0))]) (fun (t7 : Int32) => [.int t7]) (fun (t7 : Int32) => [bX12 y a0 t6]) hf (fun t7 hf => ?_) (fun t7 hf J7 => ?_)
        · try dsimp only at hf ⊢
          refine a_istoren (pc := 70) (lv' := [(0, .ref (a0 0)), (3, .int t7)]) F [1, 0] dX12_trial_70 rfl (by decide) rfl ?_
          refine a_aloadn (pc := 71) (j := 0) F dX12_trial_71 rfl rfl ?_
          obtain ⟨t8, ht8, hf⟩ := bd_some hf
          refine a_callVv (pc := 72) (bs' := [bX12 y a0 t8]) (kb := 0) (j := 0) F [0] (c_X12_bringsBack l D y ek n a0 _ _ ht8) (cwV 0 F.1.2.2.2.2 (gV q8_15 q8_17 qs_85 q1_11 q8_18) rfl rfl rfl (by decide +kernel) ⟨Nat.le_of_ble_eq_true rfl, Nat.le_of_ble_eq_true rfl⟩) rfl rfl rfl rfl (by decide) rfl rfl rfl rfl rfl rfl (Nat.le_of_ble_eq_true rfl) ⟨Nat.zero_le _, Nat.zero_le _⟩ dX12_trial_72 ?_
          refine a_iloadn (pc := 75) (j := 1) F dX12_trial_75 rfl rfl ?_
          obtain rfl := Option.some.inj hf
          exact hret _ _ _ _ (Nat.zero_le _) (Nat.zero_le _) rfl dX12_trial_76
        · refine a_if_eq (pc := 53) (tgt := 63) F dX12_trial_53 (by decide) (fun h => ?_) (fun h => ?_)
          · replace hf := it_pos h hf
            refine a_aloadn (pc := 63) (j := 0) F dX12_trial_63 rfl rfl ?_
            obtain ⟨t9, ht9, hf⟩ := bd_some hf
            refine a_callV (pc := 64) (bs' := [bX12 y a0 t6]) (kb := 0) (j := 0) F [0] (c_X12_goneOnes l D y ek n a0 _ _ ht9) (cwV 0 F.1.2.2.2.2 (gV q8_32 q8_34 qs_87 q1_11 q8_35) rfl rfl rfl (by decide +kernel) ⟨Nat.le_of_ble_eq_true rfl, Nat.le_of_ble_eq_true rfl⟩) rfl rfl rfl rfl (by decide) rfl rfl rfl rfl rfl rfl (Nat.le_of_ble_eq_true rfl) ⟨Nat.zero_le _, Nat.zero_le _⟩ dX12_trial_64 ?_
            obtain ⟨t10, ht10, hf⟩ := bd_some hf
            refine a_callS (pc := 67) (bs' := [bX12 y a0 t6]) F [] (c_J6_bitCount_0f7a4 l D y ek n  _ _ ht10) (va_cwS 1 F.1.2.2.2.2 (gS q8_23 q5_100 q1_26 q5_101) rfl rfl rfl (by decide +kernel) ⟨Nat.le_of_ble_eq_true rfl, Nat.le_of_ble_eq_true rfl⟩) (by decide) rfl rfl rfl rfl rfl rfl (Nat.le_of_ble_eq_true rfl) ⟨Nat.zero_le _, Nat.zero_le _⟩ dX12_trial_67 ?_
            refine a_sub [0] rfl ?_
            obtain rfl := Option.some.inj hf
            exact J7
          · replace hf := it_neg h hf
            refine a_aloadn (pc := 56) (j := 0) F dX12_trial_56 rfl rfl ?_
            obtain ⟨t11, ht11, hf⟩ := bd_some hf
            refine a_callV (pc := 57) (bs' := [bX12 y a0 t6]) (kb := 0) (j := 0) F [0] (c_X12_brokenOnes l D y ek n a0 _ _ ht11) (cwV 0 F.1.2.2.2.2 (gV q8_205 q8_207 qs_107 q1_11 q8_208) rfl rfl rfl (by decide +kernel) ⟨Nat.le_of_ble_eq_true rfl, Nat.le_of_ble_eq_true rfl⟩) rfl rfl rfl rfl (by decide) rfl rfl rfl rfl rfl rfl (Nat.le_of_ble_eq_true rfl) ⟨Nat.zero_le _, Nat.zero_le _⟩ dX12_trial_57 ?_
            refine a_goto (pc := 60) (tgt := 70) F dX12_trial_60 (by decide) ?_
            refine a_sub [0] rfl ?_
            obtain rfl := Option.some.inj hf
            exact J7
      · refine a_loop 36 (fun (x12l : Int32 × St) => [(0, .ref (a0 0)), (1, .int x1), (2, .int x2), (3, .int x12l.1)]) (fun (x12l : Int32 × St) => [bX12 y a0 x12l.2]) (fun rc12 x12l ih12 hf => ?_) hf rfl rfl
        try dsimp only at hf ⊢
        refine a_iloadn (pc := 36) (j := 3) F dX12_trial_36 rfl rfl ?_
        refine a_iloadn (pc := 37) (j := 1) F dX12_trial_37 rfl rfl ?_
        refine a_icmp_ge (pc := 38) (tgt := 52) F dX12_trial_38 (by decide) (fun h => ?_) (fun h => ?_)
        · replace hf := it_pos h hf
          refine a_sub [0, 2] rfl ?_
          obtain rfl := Option.some.inj hf
          exact J6
        · replace hf := it_neg h hf
          refine a_aloadn (pc := 41) (j := 0) F dX12_trial_41 rfl rfl ?_
          refine a_iconst (pc := 42) F dX12_trial_42 kc_0 ?_
          obtain ⟨t13, ht13, hf⟩ := bd_some hf
          refine a_callVv (pc := 43) (bs' := [bX12 y a0 t13]) (kb := 0) (j := 0) F [0] (c_X12_oneWeek l D y ek n a0 _ _ _ ht13) (cwV 1 F.1.2.2.2.2 (gV q8_36 q8_38 qs_88 q1_11 q8_39) rfl rfl rfl (by decide +kernel) ⟨Nat.le_of_ble_eq_true rfl, Nat.le_of_ble_eq_true rfl⟩) rfl rfl rfl rfl (by decide) rfl rfl rfl rfl rfl rfl (Nat.le_of_ble_eq_true rfl) ⟨Nat.zero_le _, Nat.zero_le _⟩ dX12_trial_43 ?_
          refine a_iinc (pc := 46) (j := 3) (v := (x12l.1 + 1)) (lv' := [(0, .ref (a0 0)), (1, .int x1), (2, .int x2), (3, .int (x12l.1 + 1))]) F [1, 2, 3, 0] dX12_trial_46 rfl ki_1 (by decide) rfl ?_
          refine a_goto (pc := 49) (tgt := 36) F dX12_trial_49 (by decide) ?_
          exact ih12 ((x12l.1 + 1), t13) hf
    · replace hf := it_neg h hf
      refine a_iconst (pc := 28) F dX12_trial_28 kc_0 ?_
      obtain rfl := Option.some.inj hf
      exact hret _ _ _ _ (Nat.zero_le _) (Nat.zero_le _) rfl dX12_trial_29
  · refine a_if_ne (pc := 13) (tgt := 20) F dX12_trial_13 (by decide) (fun h => ?_) (fun h => ?_)
    · replace hf := it_neg h hf
      refine a_iconst (pc := 20) F dX12_trial_20 kc_0 ?_
      obtain rfl := Option.some.inj hf
      exact J3
    · replace hf := it_pos h hf
      refine a_iconst (pc := 16) F dX12_trial_16 kc_1 ?_
      refine a_goto (pc := 17) (tgt := 21) F dX12_trial_17 (by decide) ?_
      obtain rfl := Option.some.inj hf
      exact J3

abbrev wX12_span : List Cond := Cond.code yX12_span cX12_span 6 (some .int) :: WALL
def m_X12_span (n : Nat) (v0 : St) (x1 : Int32) (x2 : Int32) : Option (Int32 × St) :=
nm (su v0 0 0 0) (fun u1 =>
bd (m_X12_in n x1 0 60) (fun t2 =>
bd ((if t2 = 0 then
some 1
else
some 0)) (fun (t3 : Int32) =>
bd (m_X12_throwsIf n u1 t3 1) (fun t4 =>
(if t4.1 = 0 then
bd (m_X12_keepsAll n t4.2) (fun t5 =>
lp (fun (rc6 : Int32 × Int32 × St → Option (Int32 × St)) (x6l : Int32 × Int32 × St) =>
(if 6 < x6l.2.1 then
some (x6l.1, x6l.2.2)
else
nm (su x6l.2.2 1 11 x6l.2.1) (fun u7 =>
bd (lp (fun (rc13 : Int32 × St → Option (St)) (x13l : Int32 × St) =>
(if x1 ≤ x13l.1 then
some x13l.2
else
bd (m_X12_oneWeek n x13l.2 0) (fun t14 =>
rc13 ((x13l.1 + 1), t14)))) n (0, u7)) (fun (t8 : St) =>
bd (m_X12_goneOnes n t8) (fun t9 =>
bd (m_J6_bitCount_0f7a4 n t9) (fun t10 =>
bd (m_X12_bringsBack n t8) (fun t11 =>
bd ((if 0 ≤ x6l.1 then
(if x2 = 0 then
some (x_min x6l.1 t10)
else
some (x_max x6l.1 t10))
else
some t10)) (fun (t12 : Int32) =>
rc6 (t12, (x6l.2.1 + 1), t11))))))))) n ((-1), 1, t5))
else
some (0, t4.2))))))
set_option maxHeartbeats 4000000 in
set_option maxRecDepth 100000 in
theorem c_X12_span (l : Launch) (D : va_G) (y : Nat → ClassId) (ek : EK) (n : Nat) (a0 : Nat → Nat) (v0 : St) (x1 : Int32) (x2 : Int32) (res : Int32 × St) (hf : m_X12_span n v0 x1 x2 = some res) : CI l yX12_span wX12_span { frames := 14, cells := 0, slots := 0, locals := 319 } D y ek [.ref (a0 0), .int x1, .int x2] [bX12 y a0 v0] (res.1) [bX12 y a0 res.2] 0 0 := by
  unfold m_X12_span at hf
  refine ci_of (cc := cX12_span) (maxL := 6) (by decide) rfl rfl (Nat.le_of_ble_eq_true rfl) ?_
  intro p e s m below meth c Q A F hret
  refine a_lv (lv' := [(0, .ref (a0 0)), (1, .int x1), (2, .int x2)]) rfl ?_
  refine a_aloadn (pc := 0) (j := 0) F dX12_span_0 rfl rfl ?_
  refine a_iconst (pc := 1) F dX12_span_1 kc_0 ?_
  obtain ⟨u1, eu1, hf⟩ := nm_some hf
  refine a_put (pc := 2) (kb := 0) (j := 0) (f := 0) (ty := .int) (bs' := [bX12 y a0 u1]) F iW_X12 rfl rfl rfl (by decide) (tl q6_68) (fun _ h => h) tyX12 tyX12_ok nmX12 rfl rfl rfl rfl (Nat.le_of_ble_eq_true rfl) (by rw [eu1]; rfl) dX12_span_2 ?_
  refine a_aloadn (pc := 5) (j := 0) F dX12_span_5 rfl rfl ?_
  refine a_iloadn (pc := 6) (j := 1) F dX12_span_6 rfl rfl ?_
  refine a_iconst (pc := 7) F dX12_span_7 kc_0 ?_
  refine a_bipush (pc := 8) F dX12_span_8 kb_60 ?_
  obtain ⟨t2, ht2, hf⟩ := bd_some hf
  refine a_callS (pc := 10) (bs' := [bX12 y a0 u1]) F [] (c_X12_in l D y ek n  _ _ _ _ ht2) (va_cwS 3 F.1.2.2.2.2 (gS q7_77 q7_78 q1_11 q7_79) rfl rfl rfl (by decide +kernel) ⟨Nat.le_of_ble_eq_true rfl, Nat.le_of_ble_eq_true rfl⟩) (by decide) rfl rfl rfl rfl rfl rfl (Nat.le_of_ble_eq_true rfl) ⟨Nat.zero_le _, Nat.zero_le _⟩ dX12_span_10 ?_
  refine a_join 21 (fun (t3 : Int32) => [(0, .ref (a0 0)), (1, .int x1), (2, .int x2)]) (fun (t3 : Int32) => [.int t3, .ref (a0 0)]) (fun (t3 : Int32) => [bX12 y a0 u1]) hf (fun t3 hf => ?_) (fun t3 hf J3 => ?_)
  · try dsimp only at hf ⊢
    refine a_iconst (pc := 21) F dX12_span_21 kc_1 ?_
    obtain ⟨t4, ht4, hf⟩ := bd_some hf
    refine a_callV (pc := 22) (bs' := [bX12 y a0 t4.2]) (kb := 0) (j := 0) F [0] (c_X12_throwsIf l D y ek n a0 _ _ _ _ ht4) (cwV 2 F.1.2.2.2.2 (gV q7_61 q7_63 qs_52 q1_11 q7_64) rfl rfl rfl (by decide +kernel) ⟨Nat.le_of_ble_eq_true rfl, Nat.le_of_ble_eq_true rfl⟩) rfl rfl rfl rfl (by decide) rfl rfl rfl rfl rfl rfl (Nat.le_of_ble_eq_true rfl) ⟨Nat.zero_le _, Nat.zero_le _⟩ dX12_span_22 ?_
    refine a_if_eq (pc := 25) (tgt := 30) F dX12_span_25 (by decide) (fun h => ?_) (fun h => ?_)
    · replace hf := it_pos h hf
      refine a_aloadn (pc := 30) (j := 0) F dX12_span_30 rfl rfl ?_
      obtain ⟨t5, ht5, hf⟩ := bd_some hf
      refine a_callVv (pc := 31) (bs' := [bX12 y a0 t5]) (kb := 0) (j := 0) F [0] (c_X12_keepsAll l D y ek n a0 _ _ ht5) (cwV 0 F.1.2.2.2.2 (gV q8_3 q8_5 qs_82 q1_11 q8_6) rfl rfl rfl (by decide +kernel) ⟨Nat.le_of_ble_eq_true rfl, Nat.le_of_ble_eq_true rfl⟩) rfl rfl rfl rfl (by decide) rfl rfl rfl rfl rfl rfl (Nat.le_of_ble_eq_true rfl) ⟨Nat.zero_le _, Nat.zero_le _⟩ dX12_span_31 ?_
      refine a_iconst (pc := 34) F dX12_span_34 kc_m1 ?_
      refine a_istoren (pc := 35) (lv' := [(0, .ref (a0 0)), (1, .int x1), (2, .int x2), (3, .int (-1))]) F [1, 2, 3, 0] dX12_span_35 rfl (by decide) rfl ?_
      refine a_iconst (pc := 36) F dX12_span_36 kc_1 ?_
      refine a_istore (pc := 37) (lv' := [(0, .ref (a0 0)), (1, .int x1), (2, .int x2), (3, .int (-1)), (4, .int 1)]) F [1, 2, 3, 4, 0] dX12_span_37 (by decide) rfl ?_
      refine a_loop 39 (fun (x6l : Int32 × Int32 × St) => [(0, .ref (a0 0)), (1, .int x1), (2, .int x2), (3, .int x6l.1), (4, .int x6l.2.1)]) (fun (x6l : Int32 × Int32 × St) => [bX12 y a0 x6l.2.2]) (fun rc6 x6l ih6 hf => ?_) hf rfl rfl
      try dsimp only at hf ⊢
      refine a_iload (pc := 39) (j := 4) F dX12_span_39 rfl ?_
      refine a_bipush (pc := 41) F dX12_span_41 kb_6 ?_
      refine a_icmp_gt (pc := 43) (tgt := 123) F dX12_span_43 (by decide) (fun h => ?_) (fun h => ?_)
      · replace hf := it_pos h hf
        refine a_iloadn (pc := 123) (j := 3) F dX12_span_123 rfl rfl ?_
        obtain rfl := Option.some.inj hf
        exact hret _ _ _ _ (Nat.zero_le _) (Nat.zero_le _) rfl dX12_span_124
      · replace hf := it_neg h hf
        refine a_aloadn (pc := 46) (j := 0) F dX12_span_46 rfl rfl ?_
        refine a_get (pc := 47) (kb := 0) (j := 0) (f := 1) F iW_X12 rfl rfl rfl (by decide) (tl q6_69) (fun _ h => h) rfl dX12_span_47 ?_
        refine a_bipush (pc := 50) F dX12_span_50 kb_11 ?_
        refine a_iload (pc := 52) (j := 4) F dX12_span_52 rfl ?_
        obtain ⟨u7, eu7, hf⟩ := nm_some hf
        refine a_iastc (pc := 54) (kb := 0) (j := 1) (k := 11) (bs' := [bX12 y a0 u7]) F rfl rfl (by decide) (by decide) (by rw [eu7]; rfl) dX12_span_54 ?_
        refine a_iconst (pc := 55) F dX12_span_55 kc_0 ?_
        refine a_istore (pc := 56) (lv' := [(0, .ref (a0 0)), (1, .int x1), (2, .int x2), (3, .int x6l.1), (4, .int x6l.2.1), (5, .int 0)]) F [1, 2, 3, 4, 5, 0] dX12_span_56 (by decide) rfl ?_
        refine a_join 75 (fun (t8 : St) => [(0, .ref (a0 0)), (1, .int x1), (2, .int x2), (3, .int x6l.1), (4, .int x6l.2.1)]) (fun (t8 : St) => []) (fun (t8 : St) => [bX12 y a0 t8]) hf (fun t8 hf => ?_) (fun t8 hf J8 => ?_)
        · try dsimp only at hf ⊢
          refine a_aloadn (pc := 75) (j := 0) F dX12_span_75 rfl rfl ?_
          obtain ⟨t9, ht9, hf⟩ := bd_some hf
          refine a_callV (pc := 76) (bs' := [bX12 y a0 t8]) (kb := 0) (j := 0) F [0] (c_X12_goneOnes l D y ek n a0 _ _ ht9) (cwV 0 F.1.2.2.2.2 (gV q8_32 q8_34 qs_87 q1_11 q8_35) rfl rfl rfl (by decide +kernel) ⟨Nat.le_of_ble_eq_true rfl, Nat.le_of_ble_eq_true rfl⟩) rfl rfl rfl rfl (by decide) rfl rfl rfl rfl rfl rfl (Nat.le_of_ble_eq_true rfl) ⟨Nat.zero_le _, Nat.zero_le _⟩ dX12_span_76 ?_
          obtain ⟨t10, ht10, hf⟩ := bd_some hf
          refine a_callS (pc := 79) (bs' := [bX12 y a0 t8]) F [] (c_J6_bitCount_0f7a4 l D y ek n  _ _ ht10) (va_cwS 1 F.1.2.2.2.2 (gS q8_23 q5_100 q1_26 q5_101) rfl rfl rfl (by decide +kernel) ⟨Nat.le_of_ble_eq_true rfl, Nat.le_of_ble_eq_true rfl⟩) (by decide) rfl rfl rfl rfl rfl rfl (Nat.le_of_ble_eq_true rfl) ⟨Nat.zero_le _, Nat.zero_le _⟩ dX12_span_79 ?_
          refine a_istore (pc := 82) (lv' := [(0, .ref (a0 0)), (1, .int x1), (2, .int x2), (3, .int x6l.1), (4, .int x6l.2.1), (5, .int t10)]) F [1, 2, 3, 4, 5, 0] dX12_span_82 (by decide) rfl ?_
          refine a_aloadn (pc := 84) (j := 0) F dX12_span_84 rfl rfl ?_
          obtain ⟨t11, ht11, hf⟩ := bd_some hf
          refine a_callVv (pc := 85) (bs' := [bX12 y a0 t11]) (kb := 0) (j := 0) F [0] (c_X12_bringsBack l D y ek n a0 _ _ ht11) (cwV 0 F.1.2.2.2.2 (gV q8_15 q8_17 qs_85 q1_11 q8_18) rfl rfl rfl (by decide +kernel) ⟨Nat.le_of_ble_eq_true rfl, Nat.le_of_ble_eq_true rfl⟩) rfl rfl rfl rfl (by decide) rfl rfl rfl rfl rfl rfl (Nat.le_of_ble_eq_true rfl) ⟨Nat.zero_le _, Nat.zero_le _⟩ dX12_span_85 ?_
          refine a_iloadn (pc := 88) (j := 3) F dX12_span_88 rfl rfl ?_
          refine a_join 116 (fun (t12 : Int32) => [(0, .ref (a0 0)), (1, .int x1), (2, .int x2), (4, .int x6l.2.1)]) (fun (t12 : Int32) => [.int t12]) (fun (t12 : Int32) => [bX12 y a0 t11]) hf (fun t12 hf => ?_) (fun t12 hf J12 => ?_)
          · try dsimp only at hf ⊢
            refine a_istoren (pc := 116) (lv' := [(0, .ref (a0 0)), (1, .int x1), (2, .int x2), (3, .int t12), (4, .int x6l.2.1)]) F [1, 2, 3, 0, 4] dX12_span_116 rfl (by decide) rfl ?_
            refine a_iinc (pc := 117) (j := 4) (v := (x6l.2.1 + 1)) (lv' := [(0, .ref (a0 0)), (1, .int x1), (2, .int x2), (3, .int t12), (4, .int (x6l.2.1 + 1))]) F [1, 2, 3, 4, 0] dX12_span_117 rfl ki_1 (by decide) rfl ?_
            refine a_goto (pc := 120) (tgt := 39) F dX12_span_120 (by decide) ?_
            exact ih6 (t12, (x6l.2.1 + 1), t11) hf
          · refine a_if_ge (pc := 89) (tgt := 97) F dX12_span_89 (by decide) (fun h => ?_) (fun h => ?_)
            · replace hf := it_pos h hf
              refine a_iloadn (pc := 97) (j := 2) F dX12_span_97 rfl rfl ?_
              refine a_if_eq (pc := 98) (tgt := 110) F dX12_span_98 (by decide) (fun h => ?_) (fun h => ?_)
              · replace hf := it_pos h hf
                refine a_iloadn (pc := 110) (j := 3) F dX12_span_110 rfl rfl ?_
                refine a_iload (pc := 111) (j := 5) F dX12_span_111 rfl ?_
                refine a_mmin (pc := 113) F (tl q7_119) (tl q2_170) (tl q1_22) (tl q_math_min) (Nat.le_of_ble_eq_true rfl) (Nat.le_of_ble_eq_true rfl) (Nat.zero_le _) (Nat.zero_le _) dX12_span_113 ?_
                refine a_sub [0, 1, 2, 4] rfl ?_
                obtain rfl := Option.some.inj hf
                exact J12
              · replace hf := it_neg h hf
                refine a_iloadn (pc := 101) (j := 3) F dX12_span_101 rfl rfl ?_
                refine a_iload (pc := 102) (j := 5) F dX12_span_102 rfl ?_
                refine a_mmax (pc := 104) F (tl q7_120) (tl q2_173) (tl q1_22) (tl q_math_max) (Nat.le_of_ble_eq_true rfl) (Nat.le_of_ble_eq_true rfl) (Nat.zero_le _) (Nat.zero_le _) dX12_span_104 ?_
                refine a_goto (pc := 107) (tgt := 116) F dX12_span_107 (by decide) ?_
                refine a_sub [0, 1, 2, 4] rfl ?_
                obtain rfl := Option.some.inj hf
                exact J12
            · replace hf := it_neg h hf
              refine a_iload (pc := 92) (j := 5) F dX12_span_92 rfl ?_
              refine a_goto (pc := 94) (tgt := 116) F dX12_span_94 (by decide) ?_
              refine a_sub [0, 1, 2, 4] rfl ?_
              obtain rfl := Option.some.inj hf
              exact J12
        · refine a_loop 58 (fun (x13l : Int32 × St) => [(0, .ref (a0 0)), (1, .int x1), (2, .int x2), (3, .int x6l.1), (4, .int x6l.2.1), (5, .int x13l.1)]) (fun (x13l : Int32 × St) => [bX12 y a0 x13l.2]) (fun rc13 x13l ih13 hf => ?_) hf rfl rfl
          try dsimp only at hf ⊢
          refine a_iload (pc := 58) (j := 5) F dX12_span_58 rfl ?_
          refine a_iloadn (pc := 60) (j := 1) F dX12_span_60 rfl rfl ?_
          refine a_icmp_ge (pc := 61) (tgt := 75) F dX12_span_61 (by decide) (fun h => ?_) (fun h => ?_)
          · replace hf := it_pos h hf
            refine a_sub [0, 1, 2, 3, 4] rfl ?_
            obtain rfl := Option.some.inj hf
            exact J8
          · replace hf := it_neg h hf
            refine a_aloadn (pc := 64) (j := 0) F dX12_span_64 rfl rfl ?_
            refine a_iconst (pc := 65) F dX12_span_65 kc_0 ?_
            obtain ⟨t14, ht14, hf⟩ := bd_some hf
            refine a_callVv (pc := 66) (bs' := [bX12 y a0 t14]) (kb := 0) (j := 0) F [0] (c_X12_oneWeek l D y ek n a0 _ _ _ ht14) (cwV 1 F.1.2.2.2.2 (gV q8_36 q8_38 qs_88 q1_11 q8_39) rfl rfl rfl (by decide +kernel) ⟨Nat.le_of_ble_eq_true rfl, Nat.le_of_ble_eq_true rfl⟩) rfl rfl rfl rfl (by decide) rfl rfl rfl rfl rfl rfl (Nat.le_of_ble_eq_true rfl) ⟨Nat.zero_le _, Nat.zero_le _⟩ dX12_span_66 ?_
            refine a_iinc (pc := 69) (j := 5) (v := (x13l.1 + 1)) (lv' := [(0, .ref (a0 0)), (1, .int x1), (2, .int x2), (3, .int x6l.1), (4, .int x6l.2.1), (5, .int (x13l.1 + 1))]) F [1, 2, 3, 4, 5, 0] dX12_span_69 rfl ki_1 (by decide) rfl ?_
            refine a_goto (pc := 72) (tgt := 58) F dX12_span_72 (by decide) ?_
            exact ih13 ((x13l.1 + 1), t14) hf
    · replace hf := it_neg h hf
      refine a_iconst (pc := 28) F dX12_span_28 kc_0 ?_
      obtain rfl := Option.some.inj hf
      exact hret _ _ _ _ (Nat.zero_le _) (Nat.zero_le _) rfl dX12_span_29
  · refine a_if_ne (pc := 13) (tgt := 20) F dX12_span_13 (by decide) (fun h => ?_) (fun h => ?_)
    · replace hf := it_neg h hf
      refine a_iconst (pc := 20) F dX12_span_20 kc_0 ?_
      obtain rfl := Option.some.inj hf
      exact J3
    · replace hf := it_pos h hf
      refine a_iconst (pc := 16) F dX12_span_16 kc_1 ?_
      refine a_goto (pc := 17) (tgt := 21) F dX12_span_17 (by decide) ?_
      obtain rfl := Option.some.inj hf
      exact J3

abbrev wX12_ofLog : List Cond := Cond.code yX12_ofLog cX12_ofLog 3 (some .int) :: WALL
def m_X12_ofLog (n : Nat) (v0 : St) (x1 : Int32) (x2 : Int32) : Option (Int32) :=
(if ix ((82 + (5 * x1)) + x2) 2080 then some (v0 1 (((82 + (5 * x1)) + x2)).toNatClampNeg) else none)
set_option maxHeartbeats 4000000 in
set_option maxRecDepth 100000 in
theorem c_X12_ofLog (l : Launch) (D : va_G) (y : Nat → ClassId) (ek : EK) (n : Nat) (a0 : Nat → Nat) (v0 : St) (x1 : Int32) (x2 : Int32) (res : Int32) (hf : m_X12_ofLog n v0 x1 x2 = some res) : CI l yX12_ofLog wX12_ofLog { frames := 0, cells := 0, slots := 0, locals := 0 } D y ek [.ref (a0 0), .int x1, .int x2] [bX12 y a0 v0] (res) [bX12 y a0 v0] 0 0 := by
  unfold m_X12_ofLog at hf
  refine ci_of (cc := cX12_ofLog) (maxL := 3) (by decide) rfl rfl (Nat.le_of_ble_eq_true rfl) ?_
  intro p e s m below meth c Q A F hret
  refine a_lv (lv' := [(0, .ref (a0 0)), (1, .int x1), (2, .int x2)]) rfl ?_
  refine a_aloadn (pc := 0) (j := 0) F dX12_ofLog_0 rfl rfl ?_
  refine a_get (pc := 1) (kb := 0) (j := 0) (f := 1) F iW_X12 rfl rfl rfl (by decide) (tl q6_69) (fun _ h => h) rfl dX12_ofLog_1 ?_
  refine a_bipush (pc := 4) F dX12_ofLog_4 kb_82 ?_
  refine a_iconst (pc := 6) F dX12_ofLog_6 kc_5 ?_
  refine a_iloadn (pc := 7) (j := 1) F dX12_ofLog_7 rfl rfl ?_
  refine a_imul (pc := 8) F dX12_ofLog_8 ?_
  refine a_iadd (pc := 9) F dX12_ofLog_9 ?_
  refine a_iloadn (pc := 10) (j := 2) F dX12_ofLog_10 rfl rfl ?_
  refine a_iadd (pc := 11) F dX12_ofLog_11 ?_
  obtain ⟨h1, hf⟩ := gd_some hf
  refine a_iald (pc := 12) (kb := 0) (j := 1) F rfl rfl h1 dX12_ofLog_12 ?_
  obtain rfl := Option.some.inj hf
  exact hret _ _ _ _ (Nat.zero_le _) (Nat.zero_le _) rfl dX12_ofLog_13

abbrev wX12_led : List Cond := Cond.code yX12_led cX12_led 6 (some .int) :: WALL
def m_X12_led (n : Nat) (v0 : St) (x1 : Int32) (x2 : Int32) : Option (Int32 × St) :=
nm (su v0 0 0 0) (fun u1 =>
bd (m_X12_noThing n u1 x1) (fun t2 =>
bd (m_X12_throwsIf n u1 t2 1) (fun t3 =>
(if t3.1 = 0 then
nm ((t3.2 1 10) - 1) (fun x5_4 =>
bd (lp (fun (rc6 : Int32 × Int32 × Int32 → Option (Int32 × Int32)) (x6l : Int32 × Int32 × Int32) =>
(if x6l.2.2 < 0 then
some (x6l.1, x6l.2.1)
else
bd (m_X12_ofLog n t3.2 x6l.2.2 1) (fun t7 =>
bd ((if t7 = x1 then
bd (m_X12_ofLog n t3.2 x6l.2.2 0) (fun t9 =>
some ((x6l.1 + 1), t9))
else
some (x6l.1, x6l.2.1))) (fun (t8 : Int32 × Int32) =>
rc6 (t8.1, t8.2, (x6l.2.2 + (-1))))))) n (0, (-1), x5_4)) (fun (t5 : Int32 × Int32) =>
(if x2 = 0 then
some (t5.1, t3.2)
else
some (t5.2, t3.2))))
else
some (0, t3.2)))))
set_option maxHeartbeats 4000000 in
set_option maxRecDepth 100000 in
theorem c_X12_led (l : Launch) (D : va_G) (y : Nat → ClassId) (ek : EK) (n : Nat) (a0 : Nat → Nat) (v0 : St) (x1 : Int32) (x2 : Int32) (res : Int32 × St) (hf : m_X12_led n v0 x1 x2 = some res) : CI l yX12_led wX12_led { frames := 2, cells := 0, slots := 0, locals := 43 } D y ek [.ref (a0 0), .int x1, .int x2] [bX12 y a0 v0] (res.1) [bX12 y a0 res.2] 0 0 := by
  unfold m_X12_led at hf
  refine ci_of (cc := cX12_led) (maxL := 6) (by decide) rfl rfl (Nat.le_of_ble_eq_true rfl) ?_
  intro p e s m below meth c Q A F hret
  refine a_lv (lv' := [(0, .ref (a0 0)), (1, .int x1), (2, .int x2)]) rfl ?_
  refine a_aloadn (pc := 0) (j := 0) F dX12_led_0 rfl rfl ?_
  refine a_iconst (pc := 1) F dX12_led_1 kc_0 ?_
  obtain ⟨u1, eu1, hf⟩ := nm_some hf
  refine a_put (pc := 2) (kb := 0) (j := 0) (f := 0) (ty := .int) (bs' := [bX12 y a0 u1]) F iW_X12 rfl rfl rfl (by decide) (tl q6_68) (fun _ h => h) tyX12 tyX12_ok nmX12 rfl rfl rfl rfl (Nat.le_of_ble_eq_true rfl) (by rw [eu1]; rfl) dX12_led_2 ?_
  refine a_aloadn (pc := 5) (j := 0) F dX12_led_5 rfl rfl ?_
  refine a_aloadn (pc := 6) (j := 0) F dX12_led_6 rfl rfl ?_
  refine a_iloadn (pc := 7) (j := 1) F dX12_led_7 rfl rfl ?_
  obtain ⟨t2, ht2, hf⟩ := bd_some hf
  refine a_callV (pc := 8) (bs' := [bX12 y a0 u1]) (kb := 0) (j := 0) F [0] (c_X12_noThing l D y ek n a0 _ _ _ ht2) (cwV 1 F.1.2.2.2.2 (gV q7_191 q7_193 qs_77 q1_11 q7_194) rfl rfl rfl (by decide +kernel) ⟨Nat.le_of_ble_eq_true rfl, Nat.le_of_ble_eq_true rfl⟩) rfl rfl rfl rfl (by decide) rfl rfl rfl rfl rfl rfl (Nat.le_of_ble_eq_true rfl) ⟨Nat.zero_le _, Nat.zero_le _⟩ dX12_led_8 ?_
  refine a_iconst (pc := 11) F dX12_led_11 kc_1 ?_
  obtain ⟨t3, ht3, hf⟩ := bd_some hf
  refine a_callV (pc := 12) (bs' := [bX12 y a0 t3.2]) (kb := 0) (j := 0) F [0] (c_X12_throwsIf l D y ek n a0 _ _ _ _ ht3) (cwV 2 F.1.2.2.2.2 (gV q7_61 q7_63 qs_52 q1_11 q7_64) rfl rfl rfl (by decide +kernel) ⟨Nat.le_of_ble_eq_true rfl, Nat.le_of_ble_eq_true rfl⟩) rfl rfl rfl rfl (by decide) rfl rfl rfl rfl rfl rfl (Nat.le_of_ble_eq_true rfl) ⟨Nat.zero_le _, Nat.zero_le _⟩ dX12_led_12 ?_
  refine a_if_eq (pc := 15) (tgt := 20) F dX12_led_15 (by decide) (fun h => ?_) (fun h => ?_)
  · replace hf := it_pos h hf
    refine a_iconst (pc := 20) F dX12_led_20 kc_0 ?_
    refine a_istoren (pc := 21) (lv' := [(0, .ref (a0 0)), (1, .int x1), (2, .int x2), (3, .int 0)]) F [1, 2, 3, 0] dX12_led_21 rfl (by decide) rfl ?_
    refine a_iconst (pc := 22) F dX12_led_22 kc_m1 ?_
    refine a_istore (pc := 23) (lv' := [(0, .ref (a0 0)), (1, .int x1), (2, .int x2), (3, .int 0), (4, .int (-1))]) F [1, 2, 3, 4, 0] dX12_led_23 (by decide) rfl ?_
    refine a_aloadn (pc := 25) (j := 0) F dX12_led_25 rfl rfl ?_
    refine a_get (pc := 26) (kb := 0) (j := 0) (f := 1) F iW_X12 rfl rfl rfl (by decide) (tl q6_69) (fun _ h => h) rfl dX12_led_26 ?_
    refine a_bipush (pc := 29) F dX12_led_29 kb_10 ?_
    refine a_ialdc (pc := 31) (kb := 0) (j := 1) (k := 10) F rfl rfl (by decide) (by decide) dX12_led_31 ?_
    refine a_iconst (pc := 32) F dX12_led_32 kc_1 ?_
    refine a_isub (pc := 33) F dX12_led_33 ?_
    obtain ⟨x5_4, ex5_4, hf⟩ := nm_some hf
    refine a_nmi ex5_4 ?_
    refine a_istore (pc := 34) (lv' := [(0, .ref (a0 0)), (1, .int x1), (2, .int x2), (3, .int 0), (4, .int (-1)), (5, .int x5_4)]) F [1, 2, 3, 4, 5, 0] dX12_led_34 (by decide) rfl ?_
    refine a_join 73 (fun (t5 : Int32 × Int32) => [(2, .int x2), (3, .int t5.1), (4, .int t5.2)]) (fun (t5 : Int32 × Int32) => []) (fun (t5 : Int32 × Int32) => [bX12 y a0 t3.2]) hf (fun t5 hf => ?_) (fun t5 hf J5 => ?_)
    · try dsimp only at hf ⊢
      refine a_iloadn (pc := 73) (j := 0) F dX12_led_73 rfl rfl ?_
      refine a_if_eq (pc := 74) (tgt := 82) F dX12_led_74 (by decide) (fun h => ?_) (fun h => ?_)
      · replace hf := it_pos h hf
        refine a_iloadn (pc := 82) (j := 1) F dX12_led_82 rfl rfl ?_
        obtain rfl := Option.some.inj hf
        exact hret _ _ _ _ (Nat.zero_le _) (Nat.zero_le _) rfl dX12_led_83
      · replace hf := it_neg h hf
        refine a_iload (pc := 77) (j := 2) F dX12_led_77 rfl ?_
        refine a_goto (pc := 79) (tgt := 83) F dX12_led_79 (by decide) ?_
        obtain rfl := Option.some.inj hf
        exact hret _ _ _ _ (Nat.zero_le _) (Nat.zero_le _) rfl dX12_led_83
    · refine a_loop 36 (fun (x6l : Int32 × Int32 × Int32) => [(0, .ref (a0 0)), (1, .int x1), (2, .int x2), (3, .int x6l.1), (4, .int x6l.2.1), (5, .int x6l.2.2)]) (fun (x6l : Int32 × Int32 × Int32) => [bX12 y a0 t3.2]) (fun rc6 x6l ih6 hf => ?_) hf rfl rfl
      try dsimp only at hf ⊢
      refine a_iload (pc := 36) (j := 5) F dX12_led_36 rfl ?_
      refine a_if_lt (pc := 38) (tgt := 73) F dX12_led_38 (by decide) (fun h => ?_) (fun h => ?_)
      · replace hf := it_pos h hf
        refine a_sub [2, 3, 4] rfl ?_
        obtain rfl := Option.some.inj hf
        exact J5
      · replace hf := it_neg h hf
        refine a_aloadn (pc := 41) (j := 0) F dX12_led_41 rfl rfl ?_
        refine a_iload (pc := 42) (j := 5) F dX12_led_42 rfl ?_
        refine a_iconst (pc := 44) F dX12_led_44 kc_1 ?_
        obtain ⟨t7, ht7, hf⟩ := bd_some hf
        refine a_callV (pc := 45) (bs' := [bX12 y a0 t3.2]) (kb := 0) (j := 0) F [0] (c_X12_ofLog l D y ek n a0 _ _ _ _ ht7) (cwV 2 F.1.2.2.2.2 (gV q8_217 q8_219 qs_108 q1_11 q8_220) rfl rfl rfl (by decide +kernel) ⟨Nat.le_of_ble_eq_true rfl, Nat.le_of_ble_eq_true rfl⟩) rfl rfl rfl rfl (by decide) rfl rfl rfl rfl rfl rfl (Nat.le_of_ble_eq_true rfl) ⟨Nat.zero_le _, Nat.zero_le _⟩ dX12_led_45 ?_
        refine a_iloadn (pc := 48) (j := 1) F dX12_led_48 rfl rfl ?_
        refine a_join 67 (fun (t8 : Int32 × Int32) => [(0, .ref (a0 0)), (1, .int x1), (2, .int x2), (3, .int t8.1), (4, .int t8.2), (5, .int x6l.2.2)]) (fun (t8 : Int32 × Int32) => []) (fun (t8 : Int32 × Int32) => [bX12 y a0 t3.2]) hf (fun t8 hf => ?_) (fun t8 hf J8 => ?_)
        · try dsimp only at hf ⊢
          refine a_iinc (pc := 67) (j := 5) (v := (x6l.2.2 + (-1))) (lv' := [(0, .ref (a0 0)), (1, .int x1), (2, .int x2), (3, .int t8.1), (4, .int t8.2), (5, .int (x6l.2.2 + (-1)))]) F [1, 2, 3, 4, 5, 0] dX12_led_67 rfl ki_m1 (by decide) rfl ?_
          refine a_goto (pc := 70) (tgt := 36) F dX12_led_70 (by decide) ?_
          exact ih6 (t8.1, t8.2, (x6l.2.2 + (-1))) hf
        · refine a_icmp_eq (pc := 49) (tgt := 55) F dX12_led_49 (by decide) (fun h => ?_) (fun h => ?_)
          · replace hf := it_pos h hf
            refine a_iinc (pc := 55) (j := 3) (v := (x6l.1 + 1)) (lv' := [(0, .ref (a0 0)), (1, .int x1), (2, .int x2), (3, .int (x6l.1 + 1)), (4, .int x6l.2.1), (5, .int x6l.2.2)]) F [1, 2, 3, 0, 4, 5] dX12_led_55 rfl ki_1 (by decide) rfl ?_
            refine a_aloadn (pc := 58) (j := 0) F dX12_led_58 rfl rfl ?_
            refine a_iload (pc := 59) (j := 5) F dX12_led_59 rfl ?_
            refine a_iconst (pc := 61) F dX12_led_61 kc_0 ?_
            obtain ⟨t9, ht9, hf⟩ := bd_some hf
            refine a_callV (pc := 62) (bs' := [bX12 y a0 t3.2]) (kb := 0) (j := 0) F [0] (c_X12_ofLog l D y ek n a0 _ _ _ _ ht9) (cwV 2 F.1.2.2.2.2 (gV q8_217 q8_219 qs_108 q1_11 q8_220) rfl rfl rfl (by decide +kernel) ⟨Nat.le_of_ble_eq_true rfl, Nat.le_of_ble_eq_true rfl⟩) rfl rfl rfl rfl (by decide) rfl rfl rfl rfl rfl rfl (Nat.le_of_ble_eq_true rfl) ⟨Nat.zero_le _, Nat.zero_le _⟩ dX12_led_62 ?_
            refine a_istore (pc := 65) (lv' := [(0, .ref (a0 0)), (1, .int x1), (2, .int x2), (3, .int (x6l.1 + 1)), (4, .int t9), (5, .int x6l.2.2)]) F [1, 2, 3, 4, 0, 5] dX12_led_65 (by decide) rfl ?_
            obtain rfl := Option.some.inj hf
            exact J8
          · replace hf := it_neg h hf
            refine a_goto (pc := 52) (tgt := 67) F dX12_led_52 (by decide) ?_
            obtain rfl := Option.some.inj hf
            exact J8
  · replace hf := it_neg h hf
    refine a_iconst (pc := 18) F dX12_led_18 kc_0 ?_
    obtain rfl := Option.some.inj hf
    exact hret _ _ _ _ (Nat.zero_le _) (Nat.zero_le _) rfl dX12_led_19

abbrev wX12_log : List Cond := Cond.code yX12_log cX12_log 3 (some .int) :: WALL
def m_X12_log (n : Nat) (v0 : St) (x1 : Int32) (x2 : Int32) : Option (Int32 × St) :=
nm (su v0 0 0 0) (fun u1 =>
bd (m_X12_in n x2 0 4) (fun t2 =>
bd ((if t2 = 0 then
some 1
else
some 0)) (fun (t3 : Int32) =>
bd (m_X12_throwsIf n u1 t3 1) (fun t4 =>
(if t4.1 = 0 then
bd (m_X12_in n x1 0 ((t4.2 1 10) - 1)) (fun t5 =>
(if t5 = 0 then
some ((-2), t4.2)
else
bd (m_X12_ofLog n t4.2 x1 x2) (fun t6 =>
some (t6, t4.2))))
else
some (0, t4.2))))))
set_option maxHeartbeats 4000000 in
set_option maxRecDepth 100000 in
theorem c_X12_log (l : Launch) (D : va_G) (y : Nat → ClassId) (ek : EK) (n : Nat) (a0 : Nat → Nat) (v0 : St) (x1 : Int32) (x2 : Int32) (res : Int32 × St) (hf : m_X12_log n v0 x1 x2 = some res) : CI l yX12_log wX12_log { frames := 1, cells := 0, slots := 0, locals := 22 } D y ek [.ref (a0 0), .int x1, .int x2] [bX12 y a0 v0] (res.1) [bX12 y a0 res.2] 0 0 := by
  unfold m_X12_log at hf
  refine ci_of (cc := cX12_log) (maxL := 3) (by decide) rfl rfl (Nat.le_of_ble_eq_true rfl) ?_
  intro p e s m below meth c Q A F hret
  refine a_lv (lv' := [(0, .ref (a0 0)), (1, .int x1), (2, .int x2)]) rfl ?_
  refine a_aloadn (pc := 0) (j := 0) F dX12_log_0 rfl rfl ?_
  refine a_iconst (pc := 1) F dX12_log_1 kc_0 ?_
  obtain ⟨u1, eu1, hf⟩ := nm_some hf
  refine a_put (pc := 2) (kb := 0) (j := 0) (f := 0) (ty := .int) (bs' := [bX12 y a0 u1]) F iW_X12 rfl rfl rfl (by decide) (tl q6_68) (fun _ h => h) tyX12 tyX12_ok nmX12 rfl rfl rfl rfl (Nat.le_of_ble_eq_true rfl) (by rw [eu1]; rfl) dX12_log_2 ?_
  refine a_aloadn (pc := 5) (j := 0) F dX12_log_5 rfl rfl ?_
  refine a_iloadn (pc := 6) (j := 2) F dX12_log_6 rfl rfl ?_
  refine a_iconst (pc := 7) F dX12_log_7 kc_0 ?_
  refine a_iconst (pc := 8) F dX12_log_8 kc_4 ?_
  obtain ⟨t2, ht2, hf⟩ := bd_some hf
  refine a_callS (pc := 9) (bs' := [bX12 y a0 u1]) F [] (c_X12_in l D y ek n  _ _ _ _ ht2) (va_cwS 3 F.1.2.2.2.2 (gS q7_77 q7_78 q1_11 q7_79) rfl rfl rfl (by decide +kernel) ⟨Nat.le_of_ble_eq_true rfl, Nat.le_of_ble_eq_true rfl⟩) (by decide) rfl rfl rfl rfl rfl rfl (Nat.le_of_ble_eq_true rfl) ⟨Nat.zero_le _, Nat.zero_le _⟩ dX12_log_9 ?_
  refine a_join 20 (fun (t3 : Int32) => [(0, .ref (a0 0)), (1, .int x1), (2, .int x2)]) (fun (t3 : Int32) => [.int t3, .ref (a0 0)]) (fun (t3 : Int32) => [bX12 y a0 u1]) hf (fun t3 hf => ?_) (fun t3 hf J3 => ?_)
  · try dsimp only at hf ⊢
    refine a_iconst (pc := 20) F dX12_log_20 kc_1 ?_
    obtain ⟨t4, ht4, hf⟩ := bd_some hf
    refine a_callV (pc := 21) (bs' := [bX12 y a0 t4.2]) (kb := 0) (j := 0) F [0] (c_X12_throwsIf l D y ek n a0 _ _ _ _ ht4) (cwV 2 F.1.2.2.2.2 (gV q7_61 q7_63 qs_52 q1_11 q7_64) rfl rfl rfl (by decide +kernel) ⟨Nat.le_of_ble_eq_true rfl, Nat.le_of_ble_eq_true rfl⟩) rfl rfl rfl rfl (by decide) rfl rfl rfl rfl rfl rfl (Nat.le_of_ble_eq_true rfl) ⟨Nat.zero_le _, Nat.zero_le _⟩ dX12_log_21 ?_
    refine a_if_eq (pc := 24) (tgt := 29) F dX12_log_24 (by decide) (fun h => ?_) (fun h => ?_)
    · replace hf := it_pos h hf
      refine a_iloadn (pc := 29) (j := 1) F dX12_log_29 rfl rfl ?_
      refine a_iconst (pc := 30) F dX12_log_30 kc_0 ?_
      refine a_aloadn (pc := 31) (j := 0) F dX12_log_31 rfl rfl ?_
      refine a_get (pc := 32) (kb := 0) (j := 0) (f := 1) F iW_X12 rfl rfl rfl (by decide) (tl q6_69) (fun _ h => h) rfl dX12_log_32 ?_
      refine a_bipush (pc := 35) F dX12_log_35 kb_10 ?_
      refine a_ialdc (pc := 37) (kb := 0) (j := 1) (k := 10) F rfl rfl (by decide) (by decide) dX12_log_37 ?_
      refine a_iconst (pc := 38) F dX12_log_38 kc_1 ?_
      refine a_isub (pc := 39) F dX12_log_39 ?_
      obtain ⟨t5, ht5, hf⟩ := bd_some hf
      refine a_callS (pc := 40) (bs' := [bX12 y a0 t4.2]) F [] (c_X12_in l D y ek n  _ _ _ _ ht5) (va_cwS 3 F.1.2.2.2.2 (gS q7_77 q7_78 q1_11 q7_79) rfl rfl rfl (by decide +kernel) ⟨Nat.le_of_ble_eq_true rfl, Nat.le_of_ble_eq_true rfl⟩) (by decide) rfl rfl rfl rfl rfl rfl (Nat.le_of_ble_eq_true rfl) ⟨Nat.zero_le _, Nat.zero_le _⟩ dX12_log_40 ?_
      refine a_if_eq (pc := 43) (tgt := 55) F dX12_log_43 (by decide) (fun h => ?_) (fun h => ?_)
      · replace hf := it_pos h hf
        refine a_bipush (pc := 55) F dX12_log_55 kb_m2 ?_
        obtain rfl := Option.some.inj hf
        exact hret _ _ _ _ (Nat.zero_le _) (Nat.zero_le _) rfl dX12_log_57
      · replace hf := it_neg h hf
        refine a_aloadn (pc := 46) (j := 0) F dX12_log_46 rfl rfl ?_
        refine a_iloadn (pc := 47) (j := 1) F dX12_log_47 rfl rfl ?_
        refine a_iloadn (pc := 48) (j := 2) F dX12_log_48 rfl rfl ?_
        obtain ⟨t6, ht6, hf⟩ := bd_some hf
        refine a_callV (pc := 49) (bs' := [bX12 y a0 t4.2]) (kb := 0) (j := 0) F [0] (c_X12_ofLog l D y ek n a0 _ _ _ _ ht6) (cwV 2 F.1.2.2.2.2 (gV q8_217 q8_219 qs_108 q1_11 q8_220) rfl rfl rfl (by decide +kernel) ⟨Nat.le_of_ble_eq_true rfl, Nat.le_of_ble_eq_true rfl⟩) rfl rfl rfl rfl (by decide) rfl rfl rfl rfl rfl rfl (Nat.le_of_ble_eq_true rfl) ⟨Nat.zero_le _, Nat.zero_le _⟩ dX12_log_49 ?_
        refine a_goto (pc := 52) (tgt := 57) F dX12_log_52 (by decide) ?_
        obtain rfl := Option.some.inj hf
        exact hret _ _ _ _ (Nat.zero_le _) (Nat.zero_le _) rfl dX12_log_57
    · replace hf := it_neg h hf
      refine a_iconst (pc := 27) F dX12_log_27 kc_0 ?_
      obtain rfl := Option.some.inj hf
      exact hret _ _ _ _ (Nat.zero_le _) (Nat.zero_le _) rfl dX12_log_28
  · refine a_if_ne (pc := 12) (tgt := 19) F dX12_log_12 (by decide) (fun h => ?_) (fun h => ?_)
    · replace hf := it_neg h hf
      refine a_iconst (pc := 19) F dX12_log_19 kc_0 ?_
      obtain rfl := Option.some.inj hf
      exact J3
    · replace hf := it_pos h hf
      refine a_iconst (pc := 15) F dX12_log_15 kc_1 ?_
      refine a_goto (pc := 16) (tgt := 20) F dX12_log_16 (by decide) ?_
      obtain rfl := Option.some.inj hf
      exact J3

abbrev wX12_seed : List Cond := Cond.code yX12_seed cX12_seed 3 (some .int) :: WALL
def m_X12_seed (n : Nat) (v0 : St) (x1 : Int32) : Option (Int32 × St) :=
nm (su v0 0 0 0) (fun u1 =>
nm (u1 1 11) (fun x2_2 =>
nm (su u1 1 11 x1) (fun u3 =>
some (x2_2, u3))))
set_option maxHeartbeats 4000000 in
set_option maxRecDepth 100000 in
theorem c_X12_seed (l : Launch) (D : va_G) (y : Nat → ClassId) (ek : EK) (n : Nat) (a0 : Nat → Nat) (v0 : St) (x1 : Int32) (res : Int32 × St) (hf : m_X12_seed n v0 x1 = some res) : CI l yX12_seed wX12_seed { frames := 0, cells := 0, slots := 0, locals := 0 } D y ek [.ref (a0 0), .int x1] [bX12 y a0 v0] (res.1) [bX12 y a0 res.2] 0 0 := by
  unfold m_X12_seed at hf
  refine ci_of (cc := cX12_seed) (maxL := 3) (by decide) rfl rfl (Nat.le_of_ble_eq_true rfl) ?_
  intro p e s m below meth c Q A F hret
  refine a_lv (lv' := [(0, .ref (a0 0)), (1, .int x1)]) rfl ?_
  refine a_aloadn (pc := 0) (j := 0) F dX12_seed_0 rfl rfl ?_
  refine a_iconst (pc := 1) F dX12_seed_1 kc_0 ?_
  obtain ⟨u1, eu1, hf⟩ := nm_some hf
  refine a_put (pc := 2) (kb := 0) (j := 0) (f := 0) (ty := .int) (bs' := [bX12 y a0 u1]) F iW_X12 rfl rfl rfl (by decide) (tl q6_68) (fun _ h => h) tyX12 tyX12_ok nmX12 rfl rfl rfl rfl (Nat.le_of_ble_eq_true rfl) (by rw [eu1]; rfl) dX12_seed_2 ?_
  refine a_aloadn (pc := 5) (j := 0) F dX12_seed_5 rfl rfl ?_
  refine a_get (pc := 6) (kb := 0) (j := 0) (f := 1) F iW_X12 rfl rfl rfl (by decide) (tl q6_69) (fun _ h => h) rfl dX12_seed_6 ?_
  refine a_bipush (pc := 9) F dX12_seed_9 kb_11 ?_
  refine a_ialdc (pc := 11) (kb := 0) (j := 1) (k := 11) F rfl rfl (by decide) (by decide) dX12_seed_11 ?_
  obtain ⟨x2_2, ex2_2, hf⟩ := nm_some hf
  refine a_nmi ex2_2 ?_
  refine a_istoren (pc := 12) (lv' := [(0, .ref (a0 0)), (1, .int x1), (2, .int x2_2)]) F [1, 2, 0] dX12_seed_12 rfl (by decide) rfl ?_
  refine a_aloadn (pc := 13) (j := 0) F dX12_seed_13 rfl rfl ?_
  refine a_get (pc := 14) (kb := 0) (j := 0) (f := 1) F iW_X12 rfl rfl rfl (by decide) (tl q6_69) (fun _ h => h) rfl dX12_seed_14 ?_
  refine a_bipush (pc := 17) F dX12_seed_17 kb_11 ?_
  refine a_iloadn (pc := 19) (j := 1) F dX12_seed_19 rfl rfl ?_
  obtain ⟨u3, eu3, hf⟩ := nm_some hf
  refine a_iastc (pc := 20) (kb := 0) (j := 1) (k := 11) (bs' := [bX12 y a0 u3]) F rfl rfl (by decide) (by decide) (by rw [eu3]; rfl) dX12_seed_20 ?_
  refine a_iloadn (pc := 21) (j := 2) F dX12_seed_21 rfl rfl ?_
  obtain rfl := Option.some.inj hf
  exact hret _ _ _ _ (Nat.zero_le _) (Nat.zero_le _) rfl dX12_seed_22

abbrev wX12_pursesOfAll : List Cond := Cond.code yX12_pursesOfAll cX12_pursesOfAll 3 (some .int) :: WALL
def m_X12_pursesOfAll (n : Nat) (v0 : St) : Option (Int32) :=
lp (fun (rc1 : Int32 × Int32 → Option (Int32)) (x1l : Int32 × Int32) =>
bd (m_X12_houses n v0) (fun t2 =>
(if t2 ≤ x1l.2 then
some x1l.1
else
bd (m_X12_of n v0 x1l.2 0) (fun t3 =>
nm (x1l.1 + t3) (fun x1_4 =>
rc1 (x1_4, (x1l.2 + 1))))))) n (0, 0)
set_option maxHeartbeats 4000000 in
set_option maxRecDepth 100000 in
theorem c_X12_pursesOfAll (l : Launch) (D : va_G) (y : Nat → ClassId) (ek : EK) (n : Nat) (a0 : Nat → Nat) (v0 : St) (res : Int32) (hf : m_X12_pursesOfAll n v0 = some res) : CI l yX12_pursesOfAll wX12_pursesOfAll { frames := 2, cells := 0, slots := 0, locals := 43 } D y ek [.ref (a0 0)] [bX12 y a0 v0] (res) [bX12 y a0 v0] 0 0 := by
  unfold m_X12_pursesOfAll at hf
  refine ci_of (cc := cX12_pursesOfAll) (maxL := 3) (by decide) rfl rfl (Nat.le_of_ble_eq_true rfl) ?_
  intro p e s m below meth c Q A F hret
  refine a_lv (lv' := [(0, .ref (a0 0))]) rfl ?_
  refine a_iconst (pc := 0) F dX12_pursesOfAll_0 kc_0 ?_
  refine a_istoren (pc := 1) (lv' := [(0, .ref (a0 0)), (1, .int 0)]) F [1, 0] dX12_pursesOfAll_1 rfl (by decide) rfl ?_
  refine a_iconst (pc := 2) F dX12_pursesOfAll_2 kc_0 ?_
  refine a_istoren (pc := 3) (lv' := [(0, .ref (a0 0)), (1, .int 0), (2, .int 0)]) F [1, 2, 0] dX12_pursesOfAll_3 rfl (by decide) rfl ?_
  refine a_loop 4 (fun (x1l : Int32 × Int32) => [(0, .ref (a0 0)), (1, .int x1l.1), (2, .int x1l.2)]) (fun (x1l : Int32 × Int32) => [bX12 y a0 v0]) (fun rc1 x1l ih1 hf => ?_) hf rfl rfl
  try dsimp only at hf ⊢
  refine a_iloadn (pc := 4) (j := 2) F dX12_pursesOfAll_4 rfl rfl ?_
  refine a_aloadn (pc := 5) (j := 0) F dX12_pursesOfAll_5 rfl rfl ?_
  obtain ⟨t2, ht2, hf⟩ := bd_some hf
  refine a_callV (pc := 6) (bs' := [bX12 y a0 v0]) (kb := 0) (j := 0) F [0] (c_X12_houses l D y ek n a0 _ _ ht2) (cwV 0 F.1.2.2.2.2 (gV q6_220 q6_222 qs_38 q1_11 q6_223) rfl rfl rfl (by decide +kernel) ⟨Nat.le_of_ble_eq_true rfl, Nat.le_of_ble_eq_true rfl⟩) rfl rfl rfl rfl (by decide) rfl rfl rfl rfl rfl rfl (Nat.le_of_ble_eq_true rfl) ⟨Nat.zero_le _, Nat.zero_le _⟩ dX12_pursesOfAll_6 ?_
  refine a_icmp_ge (pc := 9) (tgt := 27) F dX12_pursesOfAll_9 (by decide) (fun h => ?_) (fun h => ?_)
  · replace hf := it_pos h hf
    refine a_iloadn (pc := 27) (j := 1) F dX12_pursesOfAll_27 rfl rfl ?_
    obtain rfl := Option.some.inj hf
    exact hret _ _ _ _ (Nat.zero_le _) (Nat.zero_le _) rfl dX12_pursesOfAll_28
  · replace hf := it_neg h hf
    refine a_iloadn (pc := 12) (j := 1) F dX12_pursesOfAll_12 rfl rfl ?_
    refine a_aloadn (pc := 13) (j := 0) F dX12_pursesOfAll_13 rfl rfl ?_
    refine a_iloadn (pc := 14) (j := 2) F dX12_pursesOfAll_14 rfl rfl ?_
    refine a_iconst (pc := 15) F dX12_pursesOfAll_15 kc_0 ?_
    obtain ⟨t3, ht3, hf⟩ := bd_some hf
    refine a_callV (pc := 16) (bs' := [bX12 y a0 v0]) (kb := 0) (j := 0) F [0] (c_X12_of l D y ek n a0 _ _ _ _ ht3) (cwV 2 F.1.2.2.2.2 (gV q7_111 q7_113 qs_61 q1_11 q7_114) rfl rfl rfl (by decide +kernel) ⟨Nat.le_of_ble_eq_true rfl, Nat.le_of_ble_eq_true rfl⟩) rfl rfl rfl rfl (by decide) rfl rfl rfl rfl rfl rfl (Nat.le_of_ble_eq_true rfl) ⟨Nat.zero_le _, Nat.zero_le _⟩ dX12_pursesOfAll_16 ?_
    refine a_iadd (pc := 19) F dX12_pursesOfAll_19 ?_
    obtain ⟨x1_4, ex1_4, hf⟩ := nm_some hf
    refine a_nmi ex1_4 ?_
    refine a_istoren (pc := 20) (lv' := [(0, .ref (a0 0)), (1, .int x1_4), (2, .int x1l.2)]) F [1, 0, 2] dX12_pursesOfAll_20 rfl (by decide) rfl ?_
    refine a_iinc (pc := 21) (j := 2) (v := (x1l.2 + 1)) (lv' := [(0, .ref (a0 0)), (1, .int x1_4), (2, .int (x1l.2 + 1))]) F [1, 2, 0] dX12_pursesOfAll_21 rfl ki_1 (by decide) rfl ?_
    refine a_goto (pc := 24) (tgt := 4) F dX12_pursesOfAll_24 (by decide) ?_
    exact ih1 (x1_4, (x1l.2 + 1)) hf

abbrev wX12_count : List Cond := Cond.code yX12_count cX12_count 2 (some .int) :: WALL
def m_X12_count (n : Nat) (v0 : St) (x1 : Int32) : Option (Int32 × St) :=
nm (su v0 0 0 0) (fun u1 =>
(if x1 = 3 then
(if (u1 1 3) = 1 then
some ((u1 1 382), u1)
else
some ((-1), u1))
else
(if x1 = 4 then
bd (m_X12_in n x1 0 9) (fun t2 =>
(if t2 = 0 then
some ((-1), u1)
else
(if ix x1 2080 then some ((u1 1 (x1).toNatClampNeg), u1) else none)))
else
(if x1 = 5 then
bd (m_X12_in n x1 0 9) (fun t4 =>
(if t4 = 0 then
some ((-1), u1)
else
(if ix x1 2080 then some ((u1 1 (x1).toNatClampNeg), u1) else none)))
else
(if x1 = 6 then
bd (m_X12_in n x1 0 9) (fun t6 =>
(if t6 = 0 then
some ((-1), u1)
else
(if ix x1 2080 then some ((u1 1 (x1).toNatClampNeg), u1) else none)))
else
(if x1 = 7 then
bd (m_X12_in n x1 0 9) (fun t8 =>
(if t8 = 0 then
some ((-1), u1)
else
(if ix x1 2080 then some ((u1 1 (x1).toNatClampNeg), u1) else none)))
else
(if x1 = 8 then
bd (m_X12_in n x1 0 9) (fun t10 =>
(if t10 = 0 then
some ((-1), u1)
else
(if ix x1 2080 then some ((u1 1 (x1).toNatClampNeg), u1) else none)))
else
(if x1 = 9 then
bd (m_X12_in n x1 0 9) (fun t12 =>
(if t12 = 0 then
some ((-1), u1)
else
(if ix x1 2080 then some ((u1 1 (x1).toNatClampNeg), u1) else none)))
else
(if x1 = 10 then
bd (m_X12_brokenOnes n u1) (fun t14 =>
some (t14, u1))
else
(if x1 = 11 then
bd (m_X12_goneOnes n u1) (fun t15 =>
some (t15, u1))
else
(if x1 = 12 then
bd (m_X12_pursesOfAll n u1) (fun t16 =>
some (t16, u1))
else
(if x1 = 13 then
some ((u1 1 10), u1)
else
(if x1 = 14 then
some ((u1 7 0), u1)
else
bd (m_X12_in n x1 0 9) (fun t17 =>
(if t17 = 0 then
some ((-1), u1)
else
(if ix x1 2080 then some ((u1 1 (x1).toNatClampNeg), u1) else none))))))))))))))))
set_option maxHeartbeats 4000000 in
set_option maxRecDepth 100000 in
theorem c_X12_count (l : Launch) (D : va_G) (y : Nat → ClassId) (ek : EK) (n : Nat) (a0 : Nat → Nat) (v0 : St) (x1 : Int32) (res : Int32 × St) (hf : m_X12_count n v0 x1 = some res) : CI l yX12_count wX12_count { frames := 4, cells := 0, slots := 0, locals := 86 } D y ek [.ref (a0 0), .int x1] [bX12 y a0 v0] (res.1) [bX12 y a0 res.2] 0 0 := by
  unfold m_X12_count at hf
  refine ci_of (cc := cX12_count) (maxL := 2) (by decide) rfl rfl (Nat.le_of_ble_eq_true rfl) ?_
  intro p e s m below meth c Q A F hret
  refine a_lv (lv' := [(0, .ref (a0 0)), (1, .int x1)]) rfl ?_
  refine a_aloadn (pc := 0) (j := 0) F dX12_count_0 rfl rfl ?_
  refine a_iconst (pc := 1) F dX12_count_1 kc_0 ?_
  obtain ⟨u1, eu1, hf⟩ := nm_some hf
  refine a_put (pc := 2) (kb := 0) (j := 0) (f := 0) (ty := .int) (bs' := [bX12 y a0 u1]) F iW_X12 rfl rfl rfl (by decide) (tl q6_68) (fun _ h => h) tyX12 tyX12_ok nmX12 rfl rfl rfl rfl (Nat.le_of_ble_eq_true rfl) (by rw [eu1]; rfl) dX12_count_2 ?_
  refine a_iloadn (pc := 5) (j := 1) F dX12_count_5 rfl rfl ?_
  by_cases h3 : x1 = 3
  · replace hf := it_pos h3 hf
    refine a_tin (pc := 6) (tgt := 68) (k := 3) F dX12_count_6 (by rw [h3]; decide) (by decide) (by decide) rfl (by decide) ?_
    refine a_aloadn (pc := 68) (j := 0) F dX12_count_68 rfl rfl ?_
    refine a_get (pc := 69) (kb := 0) (j := 0) (f := 1) F iW_X12 rfl rfl rfl (by decide) (tl q6_69) (fun _ h => h) rfl dX12_count_69 ?_
    refine a_iconst (pc := 72) F dX12_count_72 kc_3 ?_
    refine a_ialdc (pc := 73) (kb := 0) (j := 1) (k := 3) F rfl rfl (by decide) (by decide) dX12_count_73 ?_
    refine a_iconst (pc := 74) F dX12_count_74 kc_1 ?_
    refine a_icmp_ne (pc := 75) (tgt := 89) F dX12_count_75 (by decide) (fun h => ?_) (fun h => ?_)
    · replace hf := it_neg h hf
      refine a_iconst (pc := 89) F dX12_count_89 kc_m1 ?_
      obtain rfl := Option.some.inj hf
      exact hret _ _ _ _ (Nat.zero_le _) (Nat.zero_le _) rfl dX12_count_90
    · replace hf := it_pos h hf
      refine a_aloadn (pc := 78) (j := 0) F dX12_count_78 rfl rfl ?_
      refine a_get (pc := 79) (kb := 0) (j := 0) (f := 1) F iW_X12 rfl rfl rfl (by decide) (tl q6_69) (fun _ h => h) rfl dX12_count_79 ?_
      refine a_sipush (pc := 82) F dX12_count_82 ks_382 ?_
      refine a_ialdc (pc := 85) (kb := 0) (j := 1) (k := 382) F rfl rfl (by decide) (by decide) dX12_count_85 ?_
      refine a_goto (pc := 86) (tgt := 90) F dX12_count_86 (by decide) ?_
      obtain rfl := Option.some.inj hf
      exact hret _ _ _ _ (Nat.zero_le _) (Nat.zero_le _) rfl dX12_count_90
  replace hf := it_neg h3 hf
  by_cases h4 : x1 = 4
  · replace hf := it_pos h4 hf
    refine a_tin (pc := 6) (tgt := 119) (k := 4) F dX12_count_6 (by rw [h4]; decide) (by decide) (by decide) rfl (by decide) ?_
    refine a_iloadn (pc := 119) (j := 1) F dX12_count_119 rfl rfl ?_
    refine a_iconst (pc := 120) F dX12_count_120 kc_0 ?_
    refine a_bipush (pc := 121) F dX12_count_121 kb_9 ?_
    obtain ⟨t2, ht2, hf⟩ := bd_some hf
    refine a_callS (pc := 123) (bs' := [bX12 y a0 u1]) F [] (c_X12_in l D y ek n  _ _ _ _ ht2) (va_cwS 3 F.1.2.2.2.2 (gS q7_77 q7_78 q1_11 q7_79) rfl rfl rfl (by decide +kernel) ⟨Nat.le_of_ble_eq_true rfl, Nat.le_of_ble_eq_true rfl⟩) (by decide) rfl rfl rfl rfl rfl rfl (Nat.le_of_ble_eq_true rfl) ⟨Nat.zero_le _, Nat.zero_le _⟩ dX12_count_123 ?_
    refine a_if_eq (pc := 126) (tgt := 138) F dX12_count_126 (by decide) (fun h => ?_) (fun h => ?_)
    · replace hf := it_pos h hf
      refine a_iconst (pc := 138) F dX12_count_138 kc_m1 ?_
      obtain rfl := Option.some.inj hf
      exact hret _ _ _ _ (Nat.zero_le _) (Nat.zero_le _) rfl dX12_count_139
    · replace hf := it_neg h hf
      refine a_aloadn (pc := 129) (j := 0) F dX12_count_129 rfl rfl ?_
      refine a_get (pc := 130) (kb := 0) (j := 0) (f := 1) F iW_X12 rfl rfl rfl (by decide) (tl q6_69) (fun _ h => h) rfl dX12_count_130 ?_
      refine a_iloadn (pc := 133) (j := 1) F dX12_count_133 rfl rfl ?_
      obtain ⟨h3, hf⟩ := gd_some hf
      refine a_iald (pc := 134) (kb := 0) (j := 1) F rfl rfl h3 dX12_count_134 ?_
      refine a_goto (pc := 135) (tgt := 139) F dX12_count_135 (by decide) ?_
      obtain rfl := Option.some.inj hf
      exact hret _ _ _ _ (Nat.zero_le _) (Nat.zero_le _) rfl dX12_count_139
  replace hf := it_neg h4 hf
  by_cases h5 : x1 = 5
  · replace hf := it_pos h5 hf
    refine a_tin (pc := 6) (tgt := 119) (k := 5) F dX12_count_6 (by rw [h5]; decide) (by decide) (by decide) rfl (by decide) ?_
    refine a_iloadn (pc := 119) (j := 1) F dX12_count_119 rfl rfl ?_
    refine a_iconst (pc := 120) F dX12_count_120 kc_0 ?_
    refine a_bipush (pc := 121) F dX12_count_121 kb_9 ?_
    obtain ⟨t4, ht4, hf⟩ := bd_some hf
    refine a_callS (pc := 123) (bs' := [bX12 y a0 u1]) F [] (c_X12_in l D y ek n  _ _ _ _ ht4) (va_cwS 3 F.1.2.2.2.2 (gS q7_77 q7_78 q1_11 q7_79) rfl rfl rfl (by decide +kernel) ⟨Nat.le_of_ble_eq_true rfl, Nat.le_of_ble_eq_true rfl⟩) (by decide) rfl rfl rfl rfl rfl rfl (Nat.le_of_ble_eq_true rfl) ⟨Nat.zero_le _, Nat.zero_le _⟩ dX12_count_123 ?_
    refine a_if_eq (pc := 126) (tgt := 138) F dX12_count_126 (by decide) (fun h => ?_) (fun h => ?_)
    · replace hf := it_pos h hf
      refine a_iconst (pc := 138) F dX12_count_138 kc_m1 ?_
      obtain rfl := Option.some.inj hf
      exact hret _ _ _ _ (Nat.zero_le _) (Nat.zero_le _) rfl dX12_count_139
    · replace hf := it_neg h hf
      refine a_aloadn (pc := 129) (j := 0) F dX12_count_129 rfl rfl ?_
      refine a_get (pc := 130) (kb := 0) (j := 0) (f := 1) F iW_X12 rfl rfl rfl (by decide) (tl q6_69) (fun _ h => h) rfl dX12_count_130 ?_
      refine a_iloadn (pc := 133) (j := 1) F dX12_count_133 rfl rfl ?_
      obtain ⟨h5, hf⟩ := gd_some hf
      refine a_iald (pc := 134) (kb := 0) (j := 1) F rfl rfl h5 dX12_count_134 ?_
      refine a_goto (pc := 135) (tgt := 139) F dX12_count_135 (by decide) ?_
      obtain rfl := Option.some.inj hf
      exact hret _ _ _ _ (Nat.zero_le _) (Nat.zero_le _) rfl dX12_count_139
  replace hf := it_neg h5 hf
  by_cases h6 : x1 = 6
  · replace hf := it_pos h6 hf
    refine a_tin (pc := 6) (tgt := 119) (k := 6) F dX12_count_6 (by rw [h6]; decide) (by decide) (by decide) rfl (by decide) ?_
    refine a_iloadn (pc := 119) (j := 1) F dX12_count_119 rfl rfl ?_
    refine a_iconst (pc := 120) F dX12_count_120 kc_0 ?_
    refine a_bipush (pc := 121) F dX12_count_121 kb_9 ?_
    obtain ⟨t6, ht6, hf⟩ := bd_some hf
    refine a_callS (pc := 123) (bs' := [bX12 y a0 u1]) F [] (c_X12_in l D y ek n  _ _ _ _ ht6) (va_cwS 3 F.1.2.2.2.2 (gS q7_77 q7_78 q1_11 q7_79) rfl rfl rfl (by decide +kernel) ⟨Nat.le_of_ble_eq_true rfl, Nat.le_of_ble_eq_true rfl⟩) (by decide) rfl rfl rfl rfl rfl rfl (Nat.le_of_ble_eq_true rfl) ⟨Nat.zero_le _, Nat.zero_le _⟩ dX12_count_123 ?_
    refine a_if_eq (pc := 126) (tgt := 138) F dX12_count_126 (by decide) (fun h => ?_) (fun h => ?_)
    · replace hf := it_pos h hf
      refine a_iconst (pc := 138) F dX12_count_138 kc_m1 ?_
      obtain rfl := Option.some.inj hf
      exact hret _ _ _ _ (Nat.zero_le _) (Nat.zero_le _) rfl dX12_count_139
    · replace hf := it_neg h hf
      refine a_aloadn (pc := 129) (j := 0) F dX12_count_129 rfl rfl ?_
      refine a_get (pc := 130) (kb := 0) (j := 0) (f := 1) F iW_X12 rfl rfl rfl (by decide) (tl q6_69) (fun _ h => h) rfl dX12_count_130 ?_
      refine a_iloadn (pc := 133) (j := 1) F dX12_count_133 rfl rfl ?_
      obtain ⟨h7, hf⟩ := gd_some hf
      refine a_iald (pc := 134) (kb := 0) (j := 1) F rfl rfl h7 dX12_count_134 ?_
      refine a_goto (pc := 135) (tgt := 139) F dX12_count_135 (by decide) ?_
      obtain rfl := Option.some.inj hf
      exact hret _ _ _ _ (Nat.zero_le _) (Nat.zero_le _) rfl dX12_count_139
  replace hf := it_neg h6 hf
  by_cases h7 : x1 = 7
  · replace hf := it_pos h7 hf
    refine a_tin (pc := 6) (tgt := 119) (k := 7) F dX12_count_6 (by rw [h7]; decide) (by decide) (by decide) rfl (by decide) ?_
    refine a_iloadn (pc := 119) (j := 1) F dX12_count_119 rfl rfl ?_
    refine a_iconst (pc := 120) F dX12_count_120 kc_0 ?_
    refine a_bipush (pc := 121) F dX12_count_121 kb_9 ?_
    obtain ⟨t8, ht8, hf⟩ := bd_some hf
    refine a_callS (pc := 123) (bs' := [bX12 y a0 u1]) F [] (c_X12_in l D y ek n  _ _ _ _ ht8) (va_cwS 3 F.1.2.2.2.2 (gS q7_77 q7_78 q1_11 q7_79) rfl rfl rfl (by decide +kernel) ⟨Nat.le_of_ble_eq_true rfl, Nat.le_of_ble_eq_true rfl⟩) (by decide) rfl rfl rfl rfl rfl rfl (Nat.le_of_ble_eq_true rfl) ⟨Nat.zero_le _, Nat.zero_le _⟩ dX12_count_123 ?_
    refine a_if_eq (pc := 126) (tgt := 138) F dX12_count_126 (by decide) (fun h => ?_) (fun h => ?_)
    · replace hf := it_pos h hf
      refine a_iconst (pc := 138) F dX12_count_138 kc_m1 ?_
      obtain rfl := Option.some.inj hf
      exact hret _ _ _ _ (Nat.zero_le _) (Nat.zero_le _) rfl dX12_count_139
    · replace hf := it_neg h hf
      refine a_aloadn (pc := 129) (j := 0) F dX12_count_129 rfl rfl ?_
      refine a_get (pc := 130) (kb := 0) (j := 0) (f := 1) F iW_X12 rfl rfl rfl (by decide) (tl q6_69) (fun _ h => h) rfl dX12_count_130 ?_
      refine a_iloadn (pc := 133) (j := 1) F dX12_count_133 rfl rfl ?_
      obtain ⟨h9, hf⟩ := gd_some hf
      refine a_iald (pc := 134) (kb := 0) (j := 1) F rfl rfl h9 dX12_count_134 ?_
      refine a_goto (pc := 135) (tgt := 139) F dX12_count_135 (by decide) ?_
      obtain rfl := Option.some.inj hf
      exact hret _ _ _ _ (Nat.zero_le _) (Nat.zero_le _) rfl dX12_count_139
  replace hf := it_neg h7 hf
  by_cases h8 : x1 = 8
  · replace hf := it_pos h8 hf
    refine a_tin (pc := 6) (tgt := 119) (k := 8) F dX12_count_6 (by rw [h8]; decide) (by decide) (by decide) rfl (by decide) ?_
    refine a_iloadn (pc := 119) (j := 1) F dX12_count_119 rfl rfl ?_
    refine a_iconst (pc := 120) F dX12_count_120 kc_0 ?_
    refine a_bipush (pc := 121) F dX12_count_121 kb_9 ?_
    obtain ⟨t10, ht10, hf⟩ := bd_some hf
    refine a_callS (pc := 123) (bs' := [bX12 y a0 u1]) F [] (c_X12_in l D y ek n  _ _ _ _ ht10) (va_cwS 3 F.1.2.2.2.2 (gS q7_77 q7_78 q1_11 q7_79) rfl rfl rfl (by decide +kernel) ⟨Nat.le_of_ble_eq_true rfl, Nat.le_of_ble_eq_true rfl⟩) (by decide) rfl rfl rfl rfl rfl rfl (Nat.le_of_ble_eq_true rfl) ⟨Nat.zero_le _, Nat.zero_le _⟩ dX12_count_123 ?_
    refine a_if_eq (pc := 126) (tgt := 138) F dX12_count_126 (by decide) (fun h => ?_) (fun h => ?_)
    · replace hf := it_pos h hf
      refine a_iconst (pc := 138) F dX12_count_138 kc_m1 ?_
      obtain rfl := Option.some.inj hf
      exact hret _ _ _ _ (Nat.zero_le _) (Nat.zero_le _) rfl dX12_count_139
    · replace hf := it_neg h hf
      refine a_aloadn (pc := 129) (j := 0) F dX12_count_129 rfl rfl ?_
      refine a_get (pc := 130) (kb := 0) (j := 0) (f := 1) F iW_X12 rfl rfl rfl (by decide) (tl q6_69) (fun _ h => h) rfl dX12_count_130 ?_
      refine a_iloadn (pc := 133) (j := 1) F dX12_count_133 rfl rfl ?_
      obtain ⟨h11, hf⟩ := gd_some hf
      refine a_iald (pc := 134) (kb := 0) (j := 1) F rfl rfl h11 dX12_count_134 ?_
      refine a_goto (pc := 135) (tgt := 139) F dX12_count_135 (by decide) ?_
      obtain rfl := Option.some.inj hf
      exact hret _ _ _ _ (Nat.zero_le _) (Nat.zero_le _) rfl dX12_count_139
  replace hf := it_neg h8 hf
  by_cases h9 : x1 = 9
  · replace hf := it_pos h9 hf
    refine a_tin (pc := 6) (tgt := 119) (k := 9) F dX12_count_6 (by rw [h9]; decide) (by decide) (by decide) rfl (by decide) ?_
    refine a_iloadn (pc := 119) (j := 1) F dX12_count_119 rfl rfl ?_
    refine a_iconst (pc := 120) F dX12_count_120 kc_0 ?_
    refine a_bipush (pc := 121) F dX12_count_121 kb_9 ?_
    obtain ⟨t12, ht12, hf⟩ := bd_some hf
    refine a_callS (pc := 123) (bs' := [bX12 y a0 u1]) F [] (c_X12_in l D y ek n  _ _ _ _ ht12) (va_cwS 3 F.1.2.2.2.2 (gS q7_77 q7_78 q1_11 q7_79) rfl rfl rfl (by decide +kernel) ⟨Nat.le_of_ble_eq_true rfl, Nat.le_of_ble_eq_true rfl⟩) (by decide) rfl rfl rfl rfl rfl rfl (Nat.le_of_ble_eq_true rfl) ⟨Nat.zero_le _, Nat.zero_le _⟩ dX12_count_123 ?_
    refine a_if_eq (pc := 126) (tgt := 138) F dX12_count_126 (by decide) (fun h => ?_) (fun h => ?_)
    · replace hf := it_pos h hf
      refine a_iconst (pc := 138) F dX12_count_138 kc_m1 ?_
      obtain rfl := Option.some.inj hf
      exact hret _ _ _ _ (Nat.zero_le _) (Nat.zero_le _) rfl dX12_count_139
    · replace hf := it_neg h hf
      refine a_aloadn (pc := 129) (j := 0) F dX12_count_129 rfl rfl ?_
      refine a_get (pc := 130) (kb := 0) (j := 0) (f := 1) F iW_X12 rfl rfl rfl (by decide) (tl q6_69) (fun _ h => h) rfl dX12_count_130 ?_
      refine a_iloadn (pc := 133) (j := 1) F dX12_count_133 rfl rfl ?_
      obtain ⟨h13, hf⟩ := gd_some hf
      refine a_iald (pc := 134) (kb := 0) (j := 1) F rfl rfl h13 dX12_count_134 ?_
      refine a_goto (pc := 135) (tgt := 139) F dX12_count_135 (by decide) ?_
      obtain rfl := Option.some.inj hf
      exact hret _ _ _ _ (Nat.zero_le _) (Nat.zero_le _) rfl dX12_count_139
  replace hf := it_neg h9 hf
  by_cases h10 : x1 = 10
  · replace hf := it_pos h10 hf
    refine a_tin (pc := 6) (tgt := 91) (k := 10) F dX12_count_6 (by rw [h10]; decide) (by decide) (by decide) rfl (by decide) ?_
    refine a_aloadn (pc := 91) (j := 0) F dX12_count_91 rfl rfl ?_
    obtain ⟨t14, ht14, hf⟩ := bd_some hf
    refine a_callV (pc := 92) (bs' := [bX12 y a0 u1]) (kb := 0) (j := 0) F [0] (c_X12_brokenOnes l D y ek n a0 _ _ ht14) (cwV 0 F.1.2.2.2.2 (gV q8_205 q8_207 qs_107 q1_11 q8_208) rfl rfl rfl (by decide +kernel) ⟨Nat.le_of_ble_eq_true rfl, Nat.le_of_ble_eq_true rfl⟩) rfl rfl rfl rfl (by decide) rfl rfl rfl rfl rfl rfl (Nat.le_of_ble_eq_true rfl) ⟨Nat.zero_le _, Nat.zero_le _⟩ dX12_count_92 ?_
    obtain rfl := Option.some.inj hf
    exact hret _ _ _ _ (Nat.zero_le _) (Nat.zero_le _) rfl dX12_count_95
  replace hf := it_neg h10 hf
  by_cases h11 : x1 = 11
  · replace hf := it_pos h11 hf
    refine a_tin (pc := 6) (tgt := 96) (k := 11) F dX12_count_6 (by rw [h11]; decide) (by decide) (by decide) rfl (by decide) ?_
    refine a_aloadn (pc := 96) (j := 0) F dX12_count_96 rfl rfl ?_
    obtain ⟨t15, ht15, hf⟩ := bd_some hf
    refine a_callV (pc := 97) (bs' := [bX12 y a0 u1]) (kb := 0) (j := 0) F [0] (c_X12_goneOnes l D y ek n a0 _ _ ht15) (cwV 0 F.1.2.2.2.2 (gV q8_32 q8_34 qs_87 q1_11 q8_35) rfl rfl rfl (by decide +kernel) ⟨Nat.le_of_ble_eq_true rfl, Nat.le_of_ble_eq_true rfl⟩) rfl rfl rfl rfl (by decide) rfl rfl rfl rfl rfl rfl (Nat.le_of_ble_eq_true rfl) ⟨Nat.zero_le _, Nat.zero_le _⟩ dX12_count_97 ?_
    obtain rfl := Option.some.inj hf
    exact hret _ _ _ _ (Nat.zero_le _) (Nat.zero_le _) rfl dX12_count_100
  replace hf := it_neg h11 hf
  by_cases h12 : x1 = 12
  · replace hf := it_pos h12 hf
    refine a_tin (pc := 6) (tgt := 101) (k := 12) F dX12_count_6 (by rw [h12]; decide) (by decide) (by decide) rfl (by decide) ?_
    refine a_aloadn (pc := 101) (j := 0) F dX12_count_101 rfl rfl ?_
    obtain ⟨t16, ht16, hf⟩ := bd_some hf
    refine a_callV (pc := 102) (bs' := [bX12 y a0 u1]) (kb := 0) (j := 0) F [0] (c_X12_pursesOfAll l D y ek n a0 _ _ ht16) (cwV 0 F.1.2.2.2.2 (gV q8_233 q8_235 qs_109 q1_11 q8_236) rfl rfl rfl (by decide +kernel) ⟨Nat.le_of_ble_eq_true rfl, Nat.le_of_ble_eq_true rfl⟩) rfl rfl rfl rfl (by decide) rfl rfl rfl rfl rfl rfl (Nat.le_of_ble_eq_true rfl) ⟨Nat.zero_le _, Nat.zero_le _⟩ dX12_count_102 ?_
    obtain rfl := Option.some.inj hf
    exact hret _ _ _ _ (Nat.zero_le _) (Nat.zero_le _) rfl dX12_count_105
  replace hf := it_neg h12 hf
  by_cases h13 : x1 = 13
  · replace hf := it_pos h13 hf
    refine a_tin (pc := 6) (tgt := 106) (k := 13) F dX12_count_6 (by rw [h13]; decide) (by decide) (by decide) rfl (by decide) ?_
    refine a_aloadn (pc := 106) (j := 0) F dX12_count_106 rfl rfl ?_
    refine a_get (pc := 107) (kb := 0) (j := 0) (f := 1) F iW_X12 rfl rfl rfl (by decide) (tl q6_69) (fun _ h => h) rfl dX12_count_107 ?_
    refine a_bipush (pc := 110) F dX12_count_110 kb_10 ?_
    refine a_ialdc (pc := 112) (kb := 0) (j := 1) (k := 10) F rfl rfl (by decide) (by decide) dX12_count_112 ?_
    obtain rfl := Option.some.inj hf
    exact hret _ _ _ _ (Nat.zero_le _) (Nat.zero_le _) rfl dX12_count_113
  replace hf := it_neg h13 hf
  by_cases h14 : x1 = 14
  · replace hf := it_pos h14 hf
    refine a_tin (pc := 6) (tgt := 114) (k := 14) F dX12_count_6 (by rw [h14]; decide) (by decide) (by decide) rfl (by decide) ?_
    refine a_aloadn (pc := 114) (j := 0) F dX12_count_114 rfl rfl ?_
    refine a_get (pc := 115) (kb := 0) (j := 0) (f := 7) F iW_X12 rfl rfl rfl (by decide) (tl q6_75) (fun _ h => h) rfl dX12_count_115 ?_
    obtain rfl := Option.some.inj hf
    exact hret _ _ _ _ (Nat.zero_le _) (Nat.zero_le _) rfl dX12_count_118
  replace hf := it_neg h14 hf
  refine a_tout (pc := 6) (tgt := 119) F dX12_count_6 (by have := sw_ne 3 h3 (by decide); have := sw_ne 4 h4 (by decide); have := sw_ne 5 h5 (by decide); have := sw_ne 6 h6 (by decide); have := sw_ne 7 h7 (by decide); have := sw_ne 8 h8 (by decide); have := sw_ne 9 h9 (by decide); have := sw_ne 10 h10 (by decide); have := sw_ne 11 h11 (by decide); have := sw_ne 12 h12 (by decide); have := sw_ne 13 h13 (by decide); have := sw_ne 14 h14 (by decide); omega) (by decide) ?_
  refine a_iloadn (pc := 119) (j := 1) F dX12_count_119 rfl rfl ?_
  refine a_iconst (pc := 120) F dX12_count_120 kc_0 ?_
  refine a_bipush (pc := 121) F dX12_count_121 kb_9 ?_
  obtain ⟨t17, ht17, hf⟩ := bd_some hf
  refine a_callS (pc := 123) (bs' := [bX12 y a0 u1]) F [] (c_X12_in l D y ek n  _ _ _ _ ht17) (va_cwS 3 F.1.2.2.2.2 (gS q7_77 q7_78 q1_11 q7_79) rfl rfl rfl (by decide +kernel) ⟨Nat.le_of_ble_eq_true rfl, Nat.le_of_ble_eq_true rfl⟩) (by decide) rfl rfl rfl rfl rfl rfl (Nat.le_of_ble_eq_true rfl) ⟨Nat.zero_le _, Nat.zero_le _⟩ dX12_count_123 ?_
  refine a_if_eq (pc := 126) (tgt := 138) F dX12_count_126 (by decide) (fun h => ?_) (fun h => ?_)
  · replace hf := it_pos h hf
    refine a_iconst (pc := 138) F dX12_count_138 kc_m1 ?_
    obtain rfl := Option.some.inj hf
    exact hret _ _ _ _ (Nat.zero_le _) (Nat.zero_le _) rfl dX12_count_139
  · replace hf := it_neg h hf
    refine a_aloadn (pc := 129) (j := 0) F dX12_count_129 rfl rfl ?_
    refine a_get (pc := 130) (kb := 0) (j := 0) (f := 1) F iW_X12 rfl rfl rfl (by decide) (tl q6_69) (fun _ h => h) rfl dX12_count_130 ?_
    refine a_iloadn (pc := 133) (j := 1) F dX12_count_133 rfl rfl ?_
    obtain ⟨h18, hf⟩ := gd_some hf
    refine a_iald (pc := 134) (kb := 0) (j := 1) F rfl rfl h18 dX12_count_134 ?_
    refine a_goto (pc := 135) (tgt := 139) F dX12_count_135 (by decide) ?_
    obtain rfl := Option.some.inj hf
    exact hret _ _ _ _ (Nat.zero_le _) (Nat.zero_le _) rfl dX12_count_139
