abbrev wX12_thingsIn : List Cond := Cond.code yX12_thingsIn cX12_thingsIn 4 (some .int) :: WALL
def m_X12_thingsIn (n : Nat) (v0 : St) (x1 : Int32) : Option (Int32) :=
lp (fun (rc1 : Int32 × Int32 → Option (Int32)) (x1l : Int32 × Int32) =>
bd (m_X12_things n v0) (fun t2 =>
(if t2 ≤ x1l.2 then
some x1l.1
else
bd (m_X12_ofThing n v0 x1l.2 2) (fun t3 =>
bd ((if t3 = x1 then
some (x_shl 1 x1l.2)
else
some 0)) (fun (t4 : Int32) =>
nm (x1l.1 ||| t4) (fun x2_5 =>
rc1 (x2_5, (x1l.2 + 1)))))))) n (0, 0)
set_option maxHeartbeats 4000000 in
set_option maxRecDepth 100000 in
theorem c_X12_thingsIn (l : Launch) (D : va_G) (y : Nat → ClassId) (ek : EK) (n : Nat) (a0 : Nat → Nat) (v0 : St) (x1 : Int32) (res : Int32) (hf : m_X12_thingsIn n v0 x1 = some res) : CI l yX12_thingsIn wX12_thingsIn { frames := 2, cells := 0, slots := 0, locals := 43 } D y ek [.ref (a0 0), .int x1] [bX12 y a0 v0] (res) [bX12 y a0 v0] 0 0 := by
  unfold m_X12_thingsIn at hf
  refine ci_of (cc := cX12_thingsIn) (maxL := 4) (by decide) rfl rfl (Nat.le_of_ble_eq_true rfl) ?_
  intro p e s m below meth c Q A F hret
  refine a_lv (lv' := [(0, .ref (a0 0)), (1, .int x1)]) rfl ?_
  refine a_iconst (pc := 0) F dX12_thingsIn_0 kc_0 ?_
  refine a_istoren (pc := 1) (lv' := [(0, .ref (a0 0)), (1, .int x1), (2, .int 0)]) F [1, 2, 0] dX12_thingsIn_1 rfl (by decide) rfl ?_
  refine a_iconst (pc := 2) F dX12_thingsIn_2 kc_0 ?_
  refine a_istoren (pc := 3) (lv' := [(0, .ref (a0 0)), (1, .int x1), (2, .int 0), (3, .int 0)]) F [1, 2, 3, 0] dX12_thingsIn_3 rfl (by decide) rfl ?_
  refine a_loop 4 (fun (x1l : Int32 × Int32) => [(0, .ref (a0 0)), (1, .int x1), (2, .int x1l.1), (3, .int x1l.2)]) (fun (x1l : Int32 × Int32) => [bX12 y a0 v0]) (fun rc1 x1l ih1 hf => ?_) hf rfl rfl
  try dsimp only at hf ⊢
  refine a_iloadn (pc := 4) (j := 3) F dX12_thingsIn_4 rfl rfl ?_
  refine a_aloadn (pc := 5) (j := 0) F dX12_thingsIn_5 rfl rfl ?_
  obtain ⟨t2, ht2, hf⟩ := bd_some hf
  refine a_callV (pc := 6) (bs' := [bX12 y a0 v0]) (kb := 0) (j := 0) F [0] (c_X12_things l D y ek n a0 _ _ ht2) (cwV 0 F.1.2.2.2.2 (gV q6_234 q6_236 qs_41 q1_11 q6_237) rfl rfl rfl (by decide +kernel) ⟨Nat.le_of_ble_eq_true rfl, Nat.le_of_ble_eq_true rfl⟩) rfl rfl rfl rfl (by decide) rfl rfl rfl rfl rfl rfl (Nat.le_of_ble_eq_true rfl) ⟨Nat.zero_le _, Nat.zero_le _⟩ dX12_thingsIn_6 ?_
  refine a_icmp_ge (pc := 9) (tgt := 38) F dX12_thingsIn_9 (by decide) (fun h => ?_) (fun h => ?_)
  · replace hf := it_pos h hf
    refine a_iloadn (pc := 38) (j := 2) F dX12_thingsIn_38 rfl rfl ?_
    obtain rfl := Option.some.inj hf
    exact hret _ _ _ _ (Nat.zero_le _) (Nat.zero_le _) rfl dX12_thingsIn_39
  · replace hf := it_neg h hf
    refine a_iloadn (pc := 12) (j := 2) F dX12_thingsIn_12 rfl rfl ?_
    refine a_aloadn (pc := 13) (j := 0) F dX12_thingsIn_13 rfl rfl ?_
    refine a_iloadn (pc := 14) (j := 3) F dX12_thingsIn_14 rfl rfl ?_
    refine a_iconst (pc := 15) F dX12_thingsIn_15 kc_2 ?_
    obtain ⟨t3, ht3, hf⟩ := bd_some hf
    refine a_callV (pc := 16) (bs' := [bX12 y a0 v0]) (kb := 0) (j := 0) F [0] (c_X12_ofThing l D y ek n a0 _ _ _ _ ht3) (cwV 2 F.1.2.2.2.2 (gV q7_100 q7_102 qs_59 q1_11 q7_103) rfl rfl rfl (by decide +kernel) ⟨Nat.le_of_ble_eq_true rfl, Nat.le_of_ble_eq_true rfl⟩) rfl rfl rfl rfl (by decide) rfl rfl rfl rfl rfl rfl (Nat.le_of_ble_eq_true rfl) ⟨Nat.zero_le _, Nat.zero_le _⟩ dX12_thingsIn_16 ?_
    refine a_iloadn (pc := 19) (j := 1) F dX12_thingsIn_19 rfl rfl ?_
    refine a_join 30 (fun (t4 : Int32) => [(0, .ref (a0 0)), (1, .int x1), (3, .int x1l.2)]) (fun (t4 : Int32) => [.int t4, .int x1l.1]) (fun (t4 : Int32) => [bX12 y a0 v0]) hf (fun t4 hf => ?_) (fun t4 hf J4 => ?_)
    · try dsimp only at hf ⊢
      refine a_ior (pc := 30) F dX12_thingsIn_30 ?_
      obtain ⟨x2_5, ex2_5, hf⟩ := nm_some hf
      refine a_nmi ex2_5 ?_
      refine a_istoren (pc := 31) (lv' := [(0, .ref (a0 0)), (1, .int x1), (2, .int x2_5), (3, .int x1l.2)]) F [1, 2, 0, 3] dX12_thingsIn_31 rfl (by decide) rfl ?_
      refine a_iinc (pc := 32) (j := 3) (v := (x1l.2 + 1)) (lv' := [(0, .ref (a0 0)), (1, .int x1), (2, .int x2_5), (3, .int (x1l.2 + 1))]) F [1, 2, 3, 0] dX12_thingsIn_32 rfl ki_1 (by decide) rfl ?_
      refine a_goto (pc := 35) (tgt := 4) F dX12_thingsIn_35 (by decide) ?_
      exact ih1 (x2_5, (x1l.2 + 1)) hf
    · refine a_icmp_ne (pc := 20) (tgt := 29) F dX12_thingsIn_20 (by decide) (fun h => ?_) (fun h => ?_)
      · replace hf := it_neg h hf
        refine a_iconst (pc := 29) F dX12_thingsIn_29 kc_0 ?_
        refine a_sub [0, 1, 3] rfl ?_
        obtain rfl := Option.some.inj hf
        exact J4
      · replace hf := it_pos h hf
        refine a_iconst (pc := 23) F dX12_thingsIn_23 kc_1 ?_
        refine a_iloadn (pc := 24) (j := 3) F dX12_thingsIn_24 rfl rfl ?_
        refine a_ishl (pc := 25) F dX12_thingsIn_25 ?_
        refine a_goto (pc := 26) (tgt := 30) F dX12_thingsIn_26 (by decide) ?_
        refine a_sub [0, 1, 3] rfl ?_
        obtain rfl := Option.some.inj hf
        exact J4

abbrev wX12_weightOf : List Cond := Cond.code yX12_weightOf cX12_weightOf 4 (some .int) :: WALL
def m_X12_weightOf (n : Nat) (v0 : St) (x1 : Int32) : Option (Int32) :=
lp (fun (rc1 : Int32 × Int32 → Option (Int32)) (x1l : Int32 × Int32) =>
bd (m_X12_things n v0) (fun t2 =>
(if t2 ≤ x1l.2 then
some x1l.1
else
bd (m_X12_holds n x1 x1l.2) (fun t3 =>
bd ((if t3 = 0 then
some 0
else
bd (m_X12_ofThing n v0 x1l.2 0) (fun t6 =>
some t6))) (fun (t4 : Int32) =>
nm (x1l.1 + t4) (fun x2_5 =>
rc1 (x2_5, (x1l.2 + 1)))))))) n (0, 0)
set_option maxHeartbeats 4000000 in
set_option maxRecDepth 100000 in
theorem c_X12_weightOf (l : Launch) (D : va_G) (y : Nat → ClassId) (ek : EK) (n : Nat) (a0 : Nat → Nat) (v0 : St) (x1 : Int32) (res : Int32) (hf : m_X12_weightOf n v0 x1 = some res) : CI l yX12_weightOf wX12_weightOf { frames := 2, cells := 0, slots := 0, locals := 43 } D y ek [.ref (a0 0), .int x1] [bX12 y a0 v0] (res) [bX12 y a0 v0] 0 0 := by
  unfold m_X12_weightOf at hf
  refine ci_of (cc := cX12_weightOf) (maxL := 4) (by decide) rfl rfl (Nat.le_of_ble_eq_true rfl) ?_
  intro p e s m below meth c Q A F hret
  refine a_lv (lv' := [(0, .ref (a0 0)), (1, .int x1)]) rfl ?_
  refine a_iconst (pc := 0) F dX12_weightOf_0 kc_0 ?_
  refine a_istoren (pc := 1) (lv' := [(0, .ref (a0 0)), (1, .int x1), (2, .int 0)]) F [1, 2, 0] dX12_weightOf_1 rfl (by decide) rfl ?_
  refine a_iconst (pc := 2) F dX12_weightOf_2 kc_0 ?_
  refine a_istoren (pc := 3) (lv' := [(0, .ref (a0 0)), (1, .int x1), (2, .int 0), (3, .int 0)]) F [1, 2, 3, 0] dX12_weightOf_3 rfl (by decide) rfl ?_
  refine a_loop 4 (fun (x1l : Int32 × Int32) => [(0, .ref (a0 0)), (1, .int x1), (2, .int x1l.1), (3, .int x1l.2)]) (fun (x1l : Int32 × Int32) => [bX12 y a0 v0]) (fun rc1 x1l ih1 hf => ?_) hf rfl rfl
  try dsimp only at hf ⊢
  refine a_iloadn (pc := 4) (j := 3) F dX12_weightOf_4 rfl rfl ?_
  refine a_aloadn (pc := 5) (j := 0) F dX12_weightOf_5 rfl rfl ?_
  obtain ⟨t2, ht2, hf⟩ := bd_some hf
  refine a_callV (pc := 6) (bs' := [bX12 y a0 v0]) (kb := 0) (j := 0) F [0] (c_X12_things l D y ek n a0 _ _ ht2) (cwV 0 F.1.2.2.2.2 (gV q6_234 q6_236 qs_41 q1_11 q6_237) rfl rfl rfl (by decide +kernel) ⟨Nat.le_of_ble_eq_true rfl, Nat.le_of_ble_eq_true rfl⟩) rfl rfl rfl rfl (by decide) rfl rfl rfl rfl rfl rfl (Nat.le_of_ble_eq_true rfl) ⟨Nat.zero_le _, Nat.zero_le _⟩ dX12_weightOf_6 ?_
  refine a_icmp_ge (pc := 9) (tgt := 39) F dX12_weightOf_9 (by decide) (fun h => ?_) (fun h => ?_)
  · replace hf := it_pos h hf
    refine a_iloadn (pc := 39) (j := 2) F dX12_weightOf_39 rfl rfl ?_
    obtain rfl := Option.some.inj hf
    exact hret _ _ _ _ (Nat.zero_le _) (Nat.zero_le _) rfl dX12_weightOf_40
  · replace hf := it_neg h hf
    refine a_iloadn (pc := 12) (j := 2) F dX12_weightOf_12 rfl rfl ?_
    refine a_iloadn (pc := 13) (j := 1) F dX12_weightOf_13 rfl rfl ?_
    refine a_iloadn (pc := 14) (j := 3) F dX12_weightOf_14 rfl rfl ?_
    obtain ⟨t3, ht3, hf⟩ := bd_some hf
    refine a_callS (pc := 15) (bs' := [bX12 y a0 v0]) F [] (c_X12_holds l D y ek n  _ _ _ ht3) (va_cwS 2 F.1.2.2.2.2 (gS q7_108 q7_109 q1_11 q7_110) rfl rfl rfl (by decide +kernel) ⟨Nat.le_of_ble_eq_true rfl, Nat.le_of_ble_eq_true rfl⟩) (by decide) rfl rfl rfl rfl rfl rfl (Nat.le_of_ble_eq_true rfl) ⟨Nat.zero_le _, Nat.zero_le _⟩ dX12_weightOf_15 ?_
    refine a_join 31 (fun (t4 : Int32) => [(0, .ref (a0 0)), (1, .int x1), (3, .int x1l.2)]) (fun (t4 : Int32) => [.int t4, .int x1l.1]) (fun (t4 : Int32) => [bX12 y a0 v0]) hf (fun t4 hf => ?_) (fun t4 hf J4 => ?_)
    · try dsimp only at hf ⊢
      refine a_iadd (pc := 31) F dX12_weightOf_31 ?_
      obtain ⟨x2_5, ex2_5, hf⟩ := nm_some hf
      refine a_nmi ex2_5 ?_
      refine a_istoren (pc := 32) (lv' := [(0, .ref (a0 0)), (1, .int x1), (2, .int x2_5), (3, .int x1l.2)]) F [1, 2, 0, 3] dX12_weightOf_32 rfl (by decide) rfl ?_
      refine a_iinc (pc := 33) (j := 3) (v := (x1l.2 + 1)) (lv' := [(0, .ref (a0 0)), (1, .int x1), (2, .int x2_5), (3, .int (x1l.2 + 1))]) F [1, 2, 3, 0] dX12_weightOf_33 rfl ki_1 (by decide) rfl ?_
      refine a_goto (pc := 36) (tgt := 4) F dX12_weightOf_36 (by decide) ?_
      exact ih1 (x2_5, (x1l.2 + 1)) hf
    · refine a_if_eq (pc := 18) (tgt := 30) F dX12_weightOf_18 (by decide) (fun h => ?_) (fun h => ?_)
      · replace hf := it_pos h hf
        refine a_iconst (pc := 30) F dX12_weightOf_30 kc_0 ?_
        refine a_sub [0, 1, 3] rfl ?_
        obtain rfl := Option.some.inj hf
        exact J4
      · replace hf := it_neg h hf
        refine a_aloadn (pc := 21) (j := 0) F dX12_weightOf_21 rfl rfl ?_
        refine a_iloadn (pc := 22) (j := 3) F dX12_weightOf_22 rfl rfl ?_
        refine a_iconst (pc := 23) F dX12_weightOf_23 kc_0 ?_
        obtain ⟨t6, ht6, hf⟩ := bd_some hf
        refine a_callV (pc := 24) (bs' := [bX12 y a0 v0]) (kb := 0) (j := 0) F [0] (c_X12_ofThing l D y ek n a0 _ _ _ _ ht6) (cwV 2 F.1.2.2.2.2 (gV q7_100 q7_102 qs_59 q1_11 q7_103) rfl rfl rfl (by decide +kernel) ⟨Nat.le_of_ble_eq_true rfl, Nat.le_of_ble_eq_true rfl⟩) rfl rfl rfl rfl (by decide) rfl rfl rfl rfl rfl rfl (Nat.le_of_ble_eq_true rfl) ⟨Nat.zero_le _, Nat.zero_le _⟩ dX12_weightOf_24 ?_
        refine a_goto (pc := 27) (tgt := 31) F dX12_weightOf_27 (by decide) ?_
        refine a_sub [0, 1, 3] rfl ?_
        obtain rfl := Option.some.inj hf
        exact J4

abbrev wX12_worthOf : List Cond := Cond.code yX12_worthOf cX12_worthOf 4 (some .int) :: WALL
def m_X12_worthOf (n : Nat) (v0 : St) (x1 : Int32) : Option (Int32) :=
lp (fun (rc1 : Int32 × Int32 → Option (Int32)) (x1l : Int32 × Int32) =>
bd (m_X12_things n v0) (fun t2 =>
(if t2 ≤ x1l.2 then
some x1l.1
else
bd (m_X12_holds n x1 x1l.2) (fun t3 =>
bd ((if t3 = 0 then
some 0
else
bd (m_X12_ofThing n v0 x1l.2 1) (fun t6 =>
some t6))) (fun (t4 : Int32) =>
nm (x1l.1 + t4) (fun x2_5 =>
rc1 (x2_5, (x1l.2 + 1)))))))) n (0, 0)
set_option maxHeartbeats 4000000 in
set_option maxRecDepth 100000 in
theorem c_X12_worthOf (l : Launch) (D : va_G) (y : Nat → ClassId) (ek : EK) (n : Nat) (a0 : Nat → Nat) (v0 : St) (x1 : Int32) (res : Int32) (hf : m_X12_worthOf n v0 x1 = some res) : CI l yX12_worthOf wX12_worthOf { frames := 2, cells := 0, slots := 0, locals := 43 } D y ek [.ref (a0 0), .int x1] [bX12 y a0 v0] (res) [bX12 y a0 v0] 0 0 := by
  unfold m_X12_worthOf at hf
  refine ci_of (cc := cX12_worthOf) (maxL := 4) (by decide) rfl rfl (Nat.le_of_ble_eq_true rfl) ?_
  intro p e s m below meth c Q A F hret
  refine a_lv (lv' := [(0, .ref (a0 0)), (1, .int x1)]) rfl ?_
  refine a_iconst (pc := 0) F dX12_worthOf_0 kc_0 ?_
  refine a_istoren (pc := 1) (lv' := [(0, .ref (a0 0)), (1, .int x1), (2, .int 0)]) F [1, 2, 0] dX12_worthOf_1 rfl (by decide) rfl ?_
  refine a_iconst (pc := 2) F dX12_worthOf_2 kc_0 ?_
  refine a_istoren (pc := 3) (lv' := [(0, .ref (a0 0)), (1, .int x1), (2, .int 0), (3, .int 0)]) F [1, 2, 3, 0] dX12_worthOf_3 rfl (by decide) rfl ?_
  refine a_loop 4 (fun (x1l : Int32 × Int32) => [(0, .ref (a0 0)), (1, .int x1), (2, .int x1l.1), (3, .int x1l.2)]) (fun (x1l : Int32 × Int32) => [bX12 y a0 v0]) (fun rc1 x1l ih1 hf => ?_) hf rfl rfl
  try dsimp only at hf ⊢
  refine a_iloadn (pc := 4) (j := 3) F dX12_worthOf_4 rfl rfl ?_
  refine a_aloadn (pc := 5) (j := 0) F dX12_worthOf_5 rfl rfl ?_
  obtain ⟨t2, ht2, hf⟩ := bd_some hf
  refine a_callV (pc := 6) (bs' := [bX12 y a0 v0]) (kb := 0) (j := 0) F [0] (c_X12_things l D y ek n a0 _ _ ht2) (cwV 0 F.1.2.2.2.2 (gV q6_234 q6_236 qs_41 q1_11 q6_237) rfl rfl rfl (by decide +kernel) ⟨Nat.le_of_ble_eq_true rfl, Nat.le_of_ble_eq_true rfl⟩) rfl rfl rfl rfl (by decide) rfl rfl rfl rfl rfl rfl (Nat.le_of_ble_eq_true rfl) ⟨Nat.zero_le _, Nat.zero_le _⟩ dX12_worthOf_6 ?_
  refine a_icmp_ge (pc := 9) (tgt := 39) F dX12_worthOf_9 (by decide) (fun h => ?_) (fun h => ?_)
  · replace hf := it_pos h hf
    refine a_iloadn (pc := 39) (j := 2) F dX12_worthOf_39 rfl rfl ?_
    obtain rfl := Option.some.inj hf
    exact hret _ _ _ _ (Nat.zero_le _) (Nat.zero_le _) rfl dX12_worthOf_40
  · replace hf := it_neg h hf
    refine a_iloadn (pc := 12) (j := 2) F dX12_worthOf_12 rfl rfl ?_
    refine a_iloadn (pc := 13) (j := 1) F dX12_worthOf_13 rfl rfl ?_
    refine a_iloadn (pc := 14) (j := 3) F dX12_worthOf_14 rfl rfl ?_
    obtain ⟨t3, ht3, hf⟩ := bd_some hf
    refine a_callS (pc := 15) (bs' := [bX12 y a0 v0]) F [] (c_X12_holds l D y ek n  _ _ _ ht3) (va_cwS 2 F.1.2.2.2.2 (gS q7_108 q7_109 q1_11 q7_110) rfl rfl rfl (by decide +kernel) ⟨Nat.le_of_ble_eq_true rfl, Nat.le_of_ble_eq_true rfl⟩) (by decide) rfl rfl rfl rfl rfl rfl (Nat.le_of_ble_eq_true rfl) ⟨Nat.zero_le _, Nat.zero_le _⟩ dX12_worthOf_15 ?_
    refine a_join 31 (fun (t4 : Int32) => [(0, .ref (a0 0)), (1, .int x1), (3, .int x1l.2)]) (fun (t4 : Int32) => [.int t4, .int x1l.1]) (fun (t4 : Int32) => [bX12 y a0 v0]) hf (fun t4 hf => ?_) (fun t4 hf J4 => ?_)
    · try dsimp only at hf ⊢
      refine a_iadd (pc := 31) F dX12_worthOf_31 ?_
      obtain ⟨x2_5, ex2_5, hf⟩ := nm_some hf
      refine a_nmi ex2_5 ?_
      refine a_istoren (pc := 32) (lv' := [(0, .ref (a0 0)), (1, .int x1), (2, .int x2_5), (3, .int x1l.2)]) F [1, 2, 0, 3] dX12_worthOf_32 rfl (by decide) rfl ?_
      refine a_iinc (pc := 33) (j := 3) (v := (x1l.2 + 1)) (lv' := [(0, .ref (a0 0)), (1, .int x1), (2, .int x2_5), (3, .int (x1l.2 + 1))]) F [1, 2, 3, 0] dX12_worthOf_33 rfl ki_1 (by decide) rfl ?_
      refine a_goto (pc := 36) (tgt := 4) F dX12_worthOf_36 (by decide) ?_
      exact ih1 (x2_5, (x1l.2 + 1)) hf
    · refine a_if_eq (pc := 18) (tgt := 30) F dX12_worthOf_18 (by decide) (fun h => ?_) (fun h => ?_)
      · replace hf := it_pos h hf
        refine a_iconst (pc := 30) F dX12_worthOf_30 kc_0 ?_
        refine a_sub [0, 1, 3] rfl ?_
        obtain rfl := Option.some.inj hf
        exact J4
      · replace hf := it_neg h hf
        refine a_aloadn (pc := 21) (j := 0) F dX12_worthOf_21 rfl rfl ?_
        refine a_iloadn (pc := 22) (j := 3) F dX12_worthOf_22 rfl rfl ?_
        refine a_iconst (pc := 23) F dX12_worthOf_23 kc_1 ?_
        obtain ⟨t6, ht6, hf⟩ := bd_some hf
        refine a_callV (pc := 24) (bs' := [bX12 y a0 v0]) (kb := 0) (j := 0) F [0] (c_X12_ofThing l D y ek n a0 _ _ _ _ ht6) (cwV 2 F.1.2.2.2.2 (gV q7_100 q7_102 qs_59 q1_11 q7_103) rfl rfl rfl (by decide +kernel) ⟨Nat.le_of_ble_eq_true rfl, Nat.le_of_ble_eq_true rfl⟩) rfl rfl rfl rfl (by decide) rfl rfl rfl rfl rfl rfl (Nat.le_of_ble_eq_true rfl) ⟨Nat.zero_le _, Nat.zero_le _⟩ dX12_worthOf_24 ?_
        refine a_goto (pc := 27) (tgt := 31) F dX12_worthOf_27 (by decide) ?_
        refine a_sub [0, 1, 3] rfl ?_
        obtain rfl := Option.some.inj hf
        exact J4

abbrev wX12_loadOf : List Cond := Cond.code yX12_loadOf cX12_loadOf 2 (some .int) :: WALL
def m_X12_loadOf (n : Nat) (v0 : St) (x1 : Int32) : Option (Int32) :=
bd (m_X12_thingsIn n v0 x1) (fun t1 =>
bd (m_X12_weightOf n v0 t1) (fun t2 =>
bd (m_X12_of n v0 x1 1) (fun t3 =>
some ((t2 + (5 * t3)) + (v0 1 5)))))
set_option maxHeartbeats 4000000 in
set_option maxRecDepth 100000 in
theorem c_X12_loadOf (l : Launch) (D : va_G) (y : Nat → ClassId) (ek : EK) (n : Nat) (a0 : Nat → Nat) (v0 : St) (x1 : Int32) (res : Int32) (hf : m_X12_loadOf n v0 x1 = some res) : CI l yX12_loadOf wX12_loadOf { frames := 3, cells := 0, slots := 0, locals := 66 } D y ek [.ref (a0 0), .int x1] [bX12 y a0 v0] (res) [bX12 y a0 v0] 0 0 := by
  unfold m_X12_loadOf at hf
  refine ci_of (cc := cX12_loadOf) (maxL := 2) (by decide) rfl rfl (Nat.le_of_ble_eq_true rfl) ?_
  intro p e s m below meth c Q A F hret
  refine a_lv (lv' := [(0, .ref (a0 0)), (1, .int x1)]) rfl ?_
  refine a_aloadn (pc := 0) (j := 0) F dX12_loadOf_0 rfl rfl ?_
  refine a_aloadn (pc := 1) (j := 0) F dX12_loadOf_1 rfl rfl ?_
  refine a_iloadn (pc := 2) (j := 1) F dX12_loadOf_2 rfl rfl ?_
  obtain ⟨t1, ht1, hf⟩ := bd_some hf
  refine a_callV (pc := 3) (bs' := [bX12 y a0 v0]) (kb := 0) (j := 0) F [0] (c_X12_thingsIn l D y ek n a0 _ _ _ ht1) (cwV 1 F.1.2.2.2.2 (gV q7_96 q7_98 qs_58 q1_11 q7_99) rfl rfl rfl (by decide +kernel) ⟨Nat.le_of_ble_eq_true rfl, Nat.le_of_ble_eq_true rfl⟩) rfl rfl rfl rfl (by decide) rfl rfl rfl rfl rfl rfl (Nat.le_of_ble_eq_true rfl) ⟨Nat.zero_le _, Nat.zero_le _⟩ dX12_loadOf_3 ?_
  obtain ⟨t2, ht2, hf⟩ := bd_some hf
  refine a_callV (pc := 6) (bs' := [bX12 y a0 v0]) (kb := 0) (j := 0) F [0] (c_X12_weightOf l D y ek n a0 _ _ _ ht2) (cwV 1 F.1.2.2.2.2 (gV q7_104 q7_106 qs_60 q1_11 q7_107) rfl rfl rfl (by decide +kernel) ⟨Nat.le_of_ble_eq_true rfl, Nat.le_of_ble_eq_true rfl⟩) rfl rfl rfl rfl (by decide) rfl rfl rfl rfl rfl rfl (Nat.le_of_ble_eq_true rfl) ⟨Nat.zero_le _, Nat.zero_le _⟩ dX12_loadOf_6 ?_
  refine a_iconst (pc := 9) F dX12_loadOf_9 kc_5 ?_
  refine a_aloadn (pc := 10) (j := 0) F dX12_loadOf_10 rfl rfl ?_
  refine a_iloadn (pc := 11) (j := 1) F dX12_loadOf_11 rfl rfl ?_
  refine a_iconst (pc := 12) F dX12_loadOf_12 kc_1 ?_
  obtain ⟨t3, ht3, hf⟩ := bd_some hf
  refine a_callV (pc := 13) (bs' := [bX12 y a0 v0]) (kb := 0) (j := 0) F [0] (c_X12_of l D y ek n a0 _ _ _ _ ht3) (cwV 2 F.1.2.2.2.2 (gV q7_111 q7_113 qs_61 q1_11 q7_114) rfl rfl rfl (by decide +kernel) ⟨Nat.le_of_ble_eq_true rfl, Nat.le_of_ble_eq_true rfl⟩) rfl rfl rfl rfl (by decide) rfl rfl rfl rfl rfl rfl (Nat.le_of_ble_eq_true rfl) ⟨Nat.zero_le _, Nat.zero_le _⟩ dX12_loadOf_13 ?_
  refine a_imul (pc := 16) F dX12_loadOf_16 ?_
  refine a_iadd (pc := 17) F dX12_loadOf_17 ?_
  refine a_aloadn (pc := 18) (j := 0) F dX12_loadOf_18 rfl rfl ?_
  refine a_get (pc := 19) (kb := 0) (j := 0) (f := 1) F iW_X12 rfl rfl rfl (by decide) (tl q6_69) (fun _ h => h) rfl dX12_loadOf_19 ?_
  refine a_iconst (pc := 22) F dX12_loadOf_22 kc_5 ?_
  refine a_ialdc (pc := 23) (kb := 0) (j := 1) (k := 5) F rfl rfl (by decide) (by decide) dX12_loadOf_23 ?_
  refine a_iadd (pc := 24) F dX12_loadOf_24 ?_
  obtain rfl := Option.some.inj hf
  exact hret _ _ _ _ (Nat.zero_le _) (Nat.zero_le _) rfl dX12_loadOf_25

abbrev wX12_tiltBy : List Cond := Cond.code yX12_tiltBy cX12_tiltBy 2 (some .int) :: WALL
def m_X12_tiltBy (n : Nat) (v0 : St) (x1 : Int32) : Option (Int32) :=
(if ¬ (v0 1 6) = 0 then some (x_max (-5) (x_min 5 (x1 / (v0 1 6)))) else none)
set_option maxHeartbeats 4000000 in
set_option maxRecDepth 100000 in
theorem c_X12_tiltBy (l : Launch) (D : va_G) (y : Nat → ClassId) (ek : EK) (n : Nat) (a0 : Nat → Nat) (v0 : St) (x1 : Int32) (res : Int32) (hf : m_X12_tiltBy n v0 x1 = some res) : CI l yX12_tiltBy wX12_tiltBy { frames := 1, cells := 0, slots := 0, locals := 16 } D y ek [.ref (a0 0), .int x1] [bX12 y a0 v0] (res) [bX12 y a0 v0] 0 0 := by
  unfold m_X12_tiltBy at hf
  refine ci_of (cc := cX12_tiltBy) (maxL := 2) (by decide) rfl rfl (Nat.le_of_ble_eq_true rfl) ?_
  intro p e s m below meth c Q A F hret
  refine a_lv (lv' := [(0, .ref (a0 0)), (1, .int x1)]) rfl ?_
  refine a_bipush (pc := 0) F dX12_tiltBy_0 kb_m5 ?_
  refine a_iconst (pc := 2) F dX12_tiltBy_2 kc_5 ?_
  refine a_iloadn (pc := 3) (j := 1) F dX12_tiltBy_3 rfl rfl ?_
  refine a_aloadn (pc := 4) (j := 0) F dX12_tiltBy_4 rfl rfl ?_
  refine a_get (pc := 5) (kb := 0) (j := 0) (f := 1) F iW_X12 rfl rfl rfl (by decide) (tl q6_69) (fun _ h => h) rfl dX12_tiltBy_5 ?_
  refine a_bipush (pc := 8) F dX12_tiltBy_8 kb_6 ?_
  refine a_ialdc (pc := 10) (kb := 0) (j := 1) (k := 6) F rfl rfl (by decide) (by decide) dX12_tiltBy_10 ?_
  obtain ⟨h1, hf⟩ := gd_some hf
  refine a_idiv (pc := 11) F dX12_tiltBy_11 h1 ?_
  refine a_mmin (pc := 12) F (tl q7_119) (tl q2_170) (tl q1_22) (tl q_math_min) (Nat.le_of_ble_eq_true rfl) (Nat.le_of_ble_eq_true rfl) (Nat.zero_le _) (Nat.zero_le _) dX12_tiltBy_12 ?_
  refine a_mmax (pc := 15) F (tl q7_120) (tl q2_173) (tl q1_22) (tl q_math_max) (Nat.le_of_ble_eq_true rfl) (Nat.le_of_ble_eq_true rfl) (Nat.zero_le _) (Nat.zero_le _) dX12_tiltBy_15 ?_
  obtain rfl := Option.some.inj hf
  exact hret _ _ _ _ (Nat.zero_le _) (Nat.zero_le _) rfl dX12_tiltBy_18

abbrev wX12_tiltOf : List Cond := Cond.code yX12_tiltOf cX12_tiltOf 2 (some .int) :: WALL
def m_X12_tiltOf (n : Nat) (v0 : St) (x1 : Int32) : Option (Int32) :=
bd (m_X12_isPropped n v0 x1) (fun t1 =>
(if t1 = 0 then
bd (m_X12_loadOf n v0 ((2 * x1) + 1)) (fun t2 =>
bd (m_X12_loadOf n v0 (2 * x1)) (fun t3 =>
bd (m_X12_tiltBy n v0 (t2 - t3)) (fun t4 =>
some t4)))
else
some 0))
set_option maxHeartbeats 4000000 in
set_option maxRecDepth 100000 in
theorem c_X12_tiltOf (l : Launch) (D : va_G) (y : Nat → ClassId) (ek : EK) (n : Nat) (a0 : Nat → Nat) (v0 : St) (x1 : Int32) (res : Int32) (hf : m_X12_tiltOf n v0 x1 = some res) : CI l yX12_tiltOf wX12_tiltOf { frames := 4, cells := 0, slots := 0, locals := 87 } D y ek [.ref (a0 0), .int x1] [bX12 y a0 v0] (res) [bX12 y a0 v0] 0 0 := by
  unfold m_X12_tiltOf at hf
  refine ci_of (cc := cX12_tiltOf) (maxL := 2) (by decide) rfl rfl (Nat.le_of_ble_eq_true rfl) ?_
  intro p e s m below meth c Q A F hret
  refine a_lv (lv' := [(0, .ref (a0 0)), (1, .int x1)]) rfl ?_
  refine a_aloadn (pc := 0) (j := 0) F dX12_tiltOf_0 rfl rfl ?_
  refine a_iloadn (pc := 1) (j := 1) F dX12_tiltOf_1 rfl rfl ?_
  obtain ⟨t1, ht1, hf⟩ := bd_some hf
  refine a_callV (pc := 2) (bs' := [bX12 y a0 v0]) (kb := 0) (j := 0) F [0] (c_X12_isPropped l D y ek n a0 _ _ _ ht1) (cwV 1 F.1.2.2.2.2 (gV q7_84 q7_86 qs_55 q1_11 q7_87) rfl rfl rfl (by decide +kernel) ⟨Nat.le_of_ble_eq_true rfl, Nat.le_of_ble_eq_true rfl⟩) rfl rfl rfl rfl (by decide) rfl rfl rfl rfl rfl rfl (Nat.le_of_ble_eq_true rfl) ⟨Nat.zero_le _, Nat.zero_le _⟩ dX12_tiltOf_2 ?_
  refine a_if_eq (pc := 5) (tgt := 12) F dX12_tiltOf_5 (by decide) (fun h => ?_) (fun h => ?_)
  · replace hf := it_pos h hf
    refine a_aloadn (pc := 12) (j := 0) F dX12_tiltOf_12 rfl rfl ?_
    refine a_aloadn (pc := 13) (j := 0) F dX12_tiltOf_13 rfl rfl ?_
    refine a_iconst (pc := 14) F dX12_tiltOf_14 kc_2 ?_
    refine a_iloadn (pc := 15) (j := 1) F dX12_tiltOf_15 rfl rfl ?_
    refine a_imul (pc := 16) F dX12_tiltOf_16 ?_
    refine a_iconst (pc := 17) F dX12_tiltOf_17 kc_1 ?_
    refine a_iadd (pc := 18) F dX12_tiltOf_18 ?_
    obtain ⟨t2, ht2, hf⟩ := bd_some hf
    refine a_callV (pc := 19) (bs' := [bX12 y a0 v0]) (kb := 0) (j := 0) F [0] (c_X12_loadOf l D y ek n a0 _ _ _ ht2) (cwV 1 F.1.2.2.2.2 (gV q7_92 q7_94 qs_57 q1_11 q7_95) rfl rfl rfl (by decide +kernel) ⟨Nat.le_of_ble_eq_true rfl, Nat.le_of_ble_eq_true rfl⟩) rfl rfl rfl rfl (by decide) rfl rfl rfl rfl rfl rfl (Nat.le_of_ble_eq_true rfl) ⟨Nat.zero_le _, Nat.zero_le _⟩ dX12_tiltOf_19 ?_
    refine a_aloadn (pc := 22) (j := 0) F dX12_tiltOf_22 rfl rfl ?_
    refine a_iconst (pc := 23) F dX12_tiltOf_23 kc_2 ?_
    refine a_iloadn (pc := 24) (j := 1) F dX12_tiltOf_24 rfl rfl ?_
    refine a_imul (pc := 25) F dX12_tiltOf_25 ?_
    obtain ⟨t3, ht3, hf⟩ := bd_some hf
    refine a_callV (pc := 26) (bs' := [bX12 y a0 v0]) (kb := 0) (j := 0) F [0] (c_X12_loadOf l D y ek n a0 _ _ _ ht3) (cwV 1 F.1.2.2.2.2 (gV q7_92 q7_94 qs_57 q1_11 q7_95) rfl rfl rfl (by decide +kernel) ⟨Nat.le_of_ble_eq_true rfl, Nat.le_of_ble_eq_true rfl⟩) rfl rfl rfl rfl (by decide) rfl rfl rfl rfl rfl rfl (Nat.le_of_ble_eq_true rfl) ⟨Nat.zero_le _, Nat.zero_le _⟩ dX12_tiltOf_26 ?_
    refine a_isub (pc := 29) F dX12_tiltOf_29 ?_
    obtain ⟨t4, ht4, hf⟩ := bd_some hf
    refine a_callV (pc := 30) (bs' := [bX12 y a0 v0]) (kb := 0) (j := 0) F [0] (c_X12_tiltBy l D y ek n a0 _ _ _ ht4) (cwV 1 F.1.2.2.2.2 (gV q7_115 q7_117 qs_62 q1_11 q7_118) rfl rfl rfl (by decide +kernel) ⟨Nat.le_of_ble_eq_true rfl, Nat.le_of_ble_eq_true rfl⟩) rfl rfl rfl rfl (by decide) rfl rfl rfl rfl rfl rfl (Nat.le_of_ble_eq_true rfl) ⟨Nat.zero_le _, Nat.zero_le _⟩ dX12_tiltOf_30 ?_
    obtain rfl := Option.some.inj hf
    exact hret _ _ _ _ (Nat.zero_le _) (Nat.zero_le _) rfl dX12_tiltOf_33
  · replace hf := it_neg h hf
    refine a_iconst (pc := 8) F dX12_tiltOf_8 kc_0 ?_
    refine a_goto (pc := 9) (tgt := 33) F dX12_tiltOf_9 (by decide) ?_
    obtain rfl := Option.some.inj hf
    exact hret _ _ _ _ (Nat.zero_le _) (Nat.zero_le _) rfl dX12_tiltOf_33

abbrev wX12_plankOf : List Cond := Cond.code yX12_plankOf cX12_plankOf 1 (some .int) :: WALL
def m_X12_plankOf (n : Nat) (x0 : Int32) : Option (Int32) :=
some (x0 / 2)
set_option maxHeartbeats 4000000 in
set_option maxRecDepth 100000 in
theorem c_X12_plankOf (l : Launch) (D : va_G) (y : Nat → ClassId) (ek : EK) (n : Nat) (x0 : Int32) (res : Int32) (hf : m_X12_plankOf n x0 = some res) : CI l yX12_plankOf wX12_plankOf { frames := 0, cells := 0, slots := 0, locals := 0 } D y ek [.int x0] [] (res) [] 0 0 := by
  unfold m_X12_plankOf at hf
  refine ci_of (cc := cX12_plankOf) (maxL := 1) (by decide) rfl rfl (Nat.le_of_ble_eq_true rfl) ?_
  intro p e s m below meth c Q A F hret
  refine a_lv (lv' := [(0, .int x0)]) rfl ?_
  refine a_iloadn (pc := 0) (j := 0) F dX12_plankOf_0 rfl rfl ?_
  refine a_iconst (pc := 1) F dX12_plankOf_1 kc_2 ?_
  refine a_idiv (pc := 2) F dX12_plankOf_2 (by decide) ?_
  obtain rfl := Option.some.inj hf
  exact hret _ _ _ _ (Nat.zero_le _) (Nat.zero_le _) rfl dX12_plankOf_3

abbrev wX12_heightBy : List Cond := Cond.code yX12_heightBy cX12_heightBy 2 (some .int) :: WALL
def m_X12_heightBy (n : Nat) (x0 : Int32) (x1 : Int32) : Option (Int32) :=
(if (x_rem x0 2) = 0 then
some (5 + x1)
else
some (5 - x1))
set_option maxHeartbeats 4000000 in
set_option maxRecDepth 100000 in
theorem c_X12_heightBy (l : Launch) (D : va_G) (y : Nat → ClassId) (ek : EK) (n : Nat) (x0 : Int32) (x1 : Int32) (res : Int32) (hf : m_X12_heightBy n x0 x1 = some res) : CI l yX12_heightBy wX12_heightBy { frames := 0, cells := 0, slots := 0, locals := 0 } D y ek [.int x0, .int x1] [] (res) [] 0 0 := by
  unfold m_X12_heightBy at hf
  refine ci_of (cc := cX12_heightBy) (maxL := 2) (by decide) rfl rfl (Nat.le_of_ble_eq_true rfl) ?_
  intro p e s m below meth c Q A F hret
  refine a_lv (lv' := [(0, .int x0), (1, .int x1)]) rfl ?_
  refine a_iloadn (pc := 0) (j := 0) F dX12_heightBy_0 rfl rfl ?_
  refine a_iconst (pc := 1) F dX12_heightBy_1 kc_2 ?_
  refine a_irem (pc := 2) F dX12_heightBy_2 (by decide) ?_
  refine a_if_ne (pc := 3) (tgt := 12) F dX12_heightBy_3 (by decide) (fun h => ?_) (fun h => ?_)
  · replace hf := it_neg h hf
    refine a_iconst (pc := 12) F dX12_heightBy_12 kc_5 ?_
    refine a_iloadn (pc := 13) (j := 1) F dX12_heightBy_13 rfl rfl ?_
    refine a_isub (pc := 14) F dX12_heightBy_14 ?_
    obtain rfl := Option.some.inj hf
    exact hret _ _ _ _ (Nat.zero_le _) (Nat.zero_le _) rfl dX12_heightBy_15
  · replace hf := it_pos h hf
    refine a_iconst (pc := 6) F dX12_heightBy_6 kc_5 ?_
    refine a_iloadn (pc := 7) (j := 1) F dX12_heightBy_7 rfl rfl ?_
    refine a_iadd (pc := 8) F dX12_heightBy_8 ?_
    refine a_goto (pc := 9) (tgt := 15) F dX12_heightBy_9 (by decide) ?_
    obtain rfl := Option.some.inj hf
    exact hret _ _ _ _ (Nat.zero_le _) (Nat.zero_le _) rfl dX12_heightBy_15

abbrev wX12_heightOf : List Cond := Cond.code yX12_heightOf cX12_heightOf 2 (some .int) :: WALL
def m_X12_heightOf (n : Nat) (v0 : St) (x1 : Int32) : Option (Int32) :=
bd (m_X12_plankOf n x1) (fun t1 =>
bd (m_X12_isBroken n v0 t1) (fun t2 =>
(if t2 = 0 then
bd (m_X12_plankOf n x1) (fun t3 =>
bd (m_X12_tiltOf n v0 t3) (fun t4 =>
bd (m_X12_heightBy n x1 t4) (fun t5 =>
some t5)))
else
some 0)))
set_option maxHeartbeats 4000000 in
set_option maxRecDepth 100000 in
theorem c_X12_heightOf (l : Launch) (D : va_G) (y : Nat → ClassId) (ek : EK) (n : Nat) (a0 : Nat → Nat) (v0 : St) (x1 : Int32) (res : Int32) (hf : m_X12_heightOf n v0 x1 = some res) : CI l yX12_heightOf wX12_heightOf { frames := 5, cells := 0, slots := 0, locals := 108 } D y ek [.ref (a0 0), .int x1] [bX12 y a0 v0] (res) [bX12 y a0 v0] 0 0 := by
  unfold m_X12_heightOf at hf
  refine ci_of (cc := cX12_heightOf) (maxL := 2) (by decide) rfl rfl (Nat.le_of_ble_eq_true rfl) ?_
  intro p e s m below meth c Q A F hret
  refine a_lv (lv' := [(0, .ref (a0 0)), (1, .int x1)]) rfl ?_
  refine a_aloadn (pc := 0) (j := 0) F dX12_heightOf_0 rfl rfl ?_
  refine a_iloadn (pc := 1) (j := 1) F dX12_heightOf_1 rfl rfl ?_
  obtain ⟨t1, ht1, hf⟩ := bd_some hf
  refine a_callS (pc := 2) (bs' := [bX12 y a0 v0]) F [] (c_X12_plankOf l D y ek n  _ _ ht1) (va_cwS 1 F.1.2.2.2.2 (gS q7_149 q7_150 q1_11 q7_151) rfl rfl rfl (by decide +kernel) ⟨Nat.le_of_ble_eq_true rfl, Nat.le_of_ble_eq_true rfl⟩) (by decide) rfl rfl rfl rfl rfl rfl (Nat.le_of_ble_eq_true rfl) ⟨Nat.zero_le _, Nat.zero_le _⟩ dX12_heightOf_2 ?_
  obtain ⟨t2, ht2, hf⟩ := bd_some hf
  refine a_callV (pc := 5) (bs' := [bX12 y a0 v0]) (kb := 0) (j := 0) F [0] (c_X12_isBroken l D y ek n a0 _ _ _ ht2) (cwV 1 F.1.2.2.2.2 (gV q7_125 q7_127 qs_64 q1_11 q7_128) rfl rfl rfl (by decide +kernel) ⟨Nat.le_of_ble_eq_true rfl, Nat.le_of_ble_eq_true rfl⟩) rfl rfl rfl rfl (by decide) rfl rfl rfl rfl rfl rfl (Nat.le_of_ble_eq_true rfl) ⟨Nat.zero_le _, Nat.zero_le _⟩ dX12_heightOf_5 ?_
  refine a_if_eq (pc := 8) (tgt := 15) F dX12_heightOf_8 (by decide) (fun h => ?_) (fun h => ?_)
  · replace hf := it_pos h hf
    refine a_iloadn (pc := 15) (j := 1) F dX12_heightOf_15 rfl rfl ?_
    refine a_aloadn (pc := 16) (j := 0) F dX12_heightOf_16 rfl rfl ?_
    refine a_iloadn (pc := 17) (j := 1) F dX12_heightOf_17 rfl rfl ?_
    obtain ⟨t3, ht3, hf⟩ := bd_some hf
    refine a_callS (pc := 18) (bs' := [bX12 y a0 v0]) F [] (c_X12_plankOf l D y ek n  _ _ ht3) (va_cwS 1 F.1.2.2.2.2 (gS q7_149 q7_150 q1_11 q7_151) rfl rfl rfl (by decide +kernel) ⟨Nat.le_of_ble_eq_true rfl, Nat.le_of_ble_eq_true rfl⟩) (by decide) rfl rfl rfl rfl rfl rfl (Nat.le_of_ble_eq_true rfl) ⟨Nat.zero_le _, Nat.zero_le _⟩ dX12_heightOf_18 ?_
    obtain ⟨t4, ht4, hf⟩ := bd_some hf
    refine a_callV (pc := 21) (bs' := [bX12 y a0 v0]) (kb := 0) (j := 0) F [0] (c_X12_tiltOf l D y ek n a0 _ _ _ ht4) (cwV 1 F.1.2.2.2.2 (gV q7_80 q7_82 qs_54 q1_11 q7_83) rfl rfl rfl (by decide +kernel) ⟨Nat.le_of_ble_eq_true rfl, Nat.le_of_ble_eq_true rfl⟩) rfl rfl rfl rfl (by decide) rfl rfl rfl rfl rfl rfl (Nat.le_of_ble_eq_true rfl) ⟨Nat.zero_le _, Nat.zero_le _⟩ dX12_heightOf_21 ?_
    obtain ⟨t5, ht5, hf⟩ := bd_some hf
    refine a_callS (pc := 24) (bs' := [bX12 y a0 v0]) F [] (c_X12_heightBy l D y ek n  _ _ _ ht5) (va_cwS 2 F.1.2.2.2.2 (gS q7_152 q7_153 q1_11 q7_154) rfl rfl rfl (by decide +kernel) ⟨Nat.le_of_ble_eq_true rfl, Nat.le_of_ble_eq_true rfl⟩) (by decide) rfl rfl rfl rfl rfl rfl (Nat.le_of_ble_eq_true rfl) ⟨Nat.zero_le _, Nat.zero_le _⟩ dX12_heightOf_24 ?_
    obtain rfl := Option.some.inj hf
    exact hret _ _ _ _ (Nat.zero_le _) (Nat.zero_le _) rfl dX12_heightOf_27
  · replace hf := it_neg h hf
    refine a_iconst (pc := 11) F dX12_heightOf_11 kc_0 ?_
    refine a_goto (pc := 12) (tgt := 27) F dX12_heightOf_12 (by decide) ?_
    obtain rfl := Option.some.inj hf
    exact hret _ _ _ _ (Nat.zero_le _) (Nat.zero_le _) rfl dX12_heightOf_27

abbrev wX12_isLevel : List Cond := Cond.code yX12_isLevel cX12_isLevel 2 (some .boolean) :: WALL
def m_X12_isLevel (n : Nat) (v0 : St) (x1 : Int32) : Option (Int32) :=
bd (m_X12_isBroken n v0 x1) (fun t1 =>
jn (fun (t2 : Unit) =>
some 0) (fun (K2 : Unit → Option (Int32)) =>
(if t1 = 0 then
bd (m_X12_tiltOf n v0 x1) (fun t3 =>
(if t3 = 0 then
some 1
else
K2 ()))
else
K2 ())))
set_option maxHeartbeats 4000000 in
set_option maxRecDepth 100000 in
theorem c_X12_isLevel (l : Launch) (D : va_G) (y : Nat → ClassId) (ek : EK) (n : Nat) (a0 : Nat → Nat) (v0 : St) (x1 : Int32) (res : Int32) (hf : m_X12_isLevel n v0 x1 = some res) : CI l yX12_isLevel wX12_isLevel { frames := 5, cells := 0, slots := 0, locals := 108 } D y ek [.ref (a0 0), .int x1] [bX12 y a0 v0] (res) [bX12 y a0 v0] 0 0 := by
  unfold m_X12_isLevel at hf
  refine ci_of (cc := cX12_isLevel) (maxL := 2) (by decide) rfl rfl (Nat.le_of_ble_eq_true rfl) ?_
  intro p e s m below meth c Q A F hret
  refine a_lv (lv' := [(0, .ref (a0 0)), (1, .int x1)]) rfl ?_
  refine a_aloadn (pc := 0) (j := 0) F dX12_isLevel_0 rfl rfl ?_
  refine a_iloadn (pc := 1) (j := 1) F dX12_isLevel_1 rfl rfl ?_
  obtain ⟨t1, ht1, hf⟩ := bd_some hf
  refine a_callV (pc := 2) (bs' := [bX12 y a0 v0]) (kb := 0) (j := 0) F [0] (c_X12_isBroken l D y ek n a0 _ _ _ ht1) (cwV 1 F.1.2.2.2.2 (gV q7_125 q7_127 qs_64 q1_11 q7_128) rfl rfl rfl (by decide +kernel) ⟨Nat.le_of_ble_eq_true rfl, Nat.le_of_ble_eq_true rfl⟩) rfl rfl rfl rfl (by decide) rfl rfl rfl rfl rfl rfl (Nat.le_of_ble_eq_true rfl) ⟨Nat.zero_le _, Nat.zero_le _⟩ dX12_isLevel_2 ?_
  refine a_jn 20 (fun (t2 : Unit) => []) (fun (t2 : Unit) => []) (fun (t2 : Unit) => [bX12 y a0 v0]) hf (fun t2 hf => ?_) (fun K2 hK2 hf => ?_)
  · try dsimp only at hf ⊢
    refine a_iconst (pc := 20) F dX12_isLevel_20 kc_0 ?_
    obtain rfl := Option.some.inj hf
    exact hret _ _ _ _ (Nat.zero_le _) (Nat.zero_le _) (z_nar (Or.inl rfl)) dX12_isLevel_21
  · try dsimp only at hf
    refine a_if_ne (pc := 5) (tgt := 20) F dX12_isLevel_5 (by decide) (fun h => ?_) (fun h => ?_)
    · replace hf := it_neg h hf
      refine a_sub [] rfl ?_
      exact hK2 () hf
    · replace hf := it_pos h hf
      refine a_aloadn (pc := 8) (j := 0) F dX12_isLevel_8 rfl rfl ?_
      refine a_iloadn (pc := 9) (j := 1) F dX12_isLevel_9 rfl rfl ?_
      obtain ⟨t3, ht3, hf⟩ := bd_some hf
      refine a_callV (pc := 10) (bs' := [bX12 y a0 v0]) (kb := 0) (j := 0) F [0] (c_X12_tiltOf l D y ek n a0 _ _ _ ht3) (cwV 1 F.1.2.2.2.2 (gV q7_80 q7_82 qs_54 q1_11 q7_83) rfl rfl rfl (by decide +kernel) ⟨Nat.le_of_ble_eq_true rfl, Nat.le_of_ble_eq_true rfl⟩) rfl rfl rfl rfl (by decide) rfl rfl rfl rfl rfl rfl (Nat.le_of_ble_eq_true rfl) ⟨Nat.zero_le _, Nat.zero_le _⟩ dX12_isLevel_10 ?_
      refine a_if_ne (pc := 13) (tgt := 20) F dX12_isLevel_13 (by decide) (fun h => ?_) (fun h => ?_)
      · replace hf := it_neg h hf
        refine a_sub [] rfl ?_
        exact hK2 () hf
      · replace hf := it_pos h hf
        refine a_iconst (pc := 16) F dX12_isLevel_16 kc_1 ?_
        refine a_goto (pc := 17) (tgt := 21) F dX12_isLevel_17 (by decide) ?_
        obtain rfl := Option.some.inj hf
        exact hret _ _ _ _ (Nat.zero_le _) (Nat.zero_le _) (z_nar (Or.inr rfl)) dX12_isLevel_21

abbrev wX12_factOf : List Cond := Cond.code yX12_factOf cX12_factOf 4 (some .int) :: WALL
def m_X12_factOf (n : Nat) (v0 : St) (x1 : Int32) (x2 : Int32) (x3 : Int32) : Option (Int32) :=
(if x1 = 0 then
some x3
else
(if x1 = 1 then
bd (m_X12_heightOf n v0 x3) (fun t1 =>
some t1)
else
(if x1 = 2 then
bd (m_X12_loadOf n v0 x3) (fun t2 =>
some t2)
else
(if x1 = 3 then
bd (m_X12_of n v0 x3 1) (fun t3 =>
some t3)
else
(if x1 = 4 then
bd (m_X12_plankOf n x3) (fun t4 =>
bd (m_X12_ofPlank n v0 t4 1) (fun t5 =>
some t5))
else
(if x1 = 5 then
some (v0 1 4)
else
(if x1 = 6 then
bd (m_X12_heightOf n v0 x3) (fun t6 =>
(if t6 ≤ 5 then
some 0
else
some 1))
else
(if x1 = 7 then
bd (m_X12_plankOf n x3) (fun t7 =>
bd (m_X12_isLevel n v0 t7) (fun t8 =>
(if t8 = 0 then
some 0
else
some 1)))
else
some x2))))))))
set_option maxHeartbeats 4000000 in
set_option maxRecDepth 100000 in
theorem c_X12_factOf (l : Launch) (D : va_G) (y : Nat → ClassId) (ek : EK) (n : Nat) (a0 : Nat → Nat) (v0 : St) (x1 : Int32) (x2 : Int32) (x3 : Int32) (res : Int32) (hf : m_X12_factOf n v0 x1 x2 x3 = some res) : CI l yX12_factOf wX12_factOf { frames := 6, cells := 0, slots := 0, locals := 129 } D y ek [.ref (a0 0), .int x1, .int x2, .int x3] [bX12 y a0 v0] (res) [bX12 y a0 v0] 0 0 := by
  unfold m_X12_factOf at hf
  refine ci_of (cc := cX12_factOf) (maxL := 4) (by decide) rfl rfl (Nat.le_of_ble_eq_true rfl) ?_
  intro p e s m below meth c Q A F hret
  refine a_lv (lv' := [(0, .ref (a0 0)), (1, .int x1), (2, .int x2), (3, .int x3)]) rfl ?_
  refine a_iloadn (pc := 0) (j := 1) F dX12_factOf_0 rfl rfl ?_
  by_cases h0 : x1 = 0
  · replace hf := it_pos h0 hf
    refine a_tin (pc := 1) (tgt := 48) (k := 0) F dX12_factOf_1 (by rw [h0]; decide) (by decide) (by decide) rfl (by decide) ?_
    refine a_iloadn (pc := 48) (j := 3) F dX12_factOf_48 rfl rfl ?_
    obtain rfl := Option.some.inj hf
    exact hret _ _ _ _ (Nat.zero_le _) (Nat.zero_le _) rfl dX12_factOf_49
  replace hf := it_neg h0 hf
  by_cases h1 : x1 = 1
  · replace hf := it_pos h1 hf
    refine a_tin (pc := 1) (tgt := 50) (k := 1) F dX12_factOf_1 (by rw [h1]; decide) (by decide) (by decide) rfl (by decide) ?_
    refine a_aloadn (pc := 50) (j := 0) F dX12_factOf_50 rfl rfl ?_
    refine a_iloadn (pc := 51) (j := 3) F dX12_factOf_51 rfl rfl ?_
    obtain ⟨t1, ht1, hf⟩ := bd_some hf
    refine a_callV (pc := 52) (bs' := [bX12 y a0 v0]) (kb := 0) (j := 0) F [0] (c_X12_heightOf l D y ek n a0 _ _ _ ht1) (cwV 1 F.1.2.2.2.2 (gV q7_145 q7_147 qs_69 q1_11 q7_148) rfl rfl rfl (by decide +kernel) ⟨Nat.le_of_ble_eq_true rfl, Nat.le_of_ble_eq_true rfl⟩) rfl rfl rfl rfl (by decide) rfl rfl rfl rfl rfl rfl (Nat.le_of_ble_eq_true rfl) ⟨Nat.zero_le _, Nat.zero_le _⟩ dX12_factOf_52 ?_
    obtain rfl := Option.some.inj hf
    exact hret _ _ _ _ (Nat.zero_le _) (Nat.zero_le _) rfl dX12_factOf_55
  replace hf := it_neg h1 hf
  by_cases h2 : x1 = 2
  · replace hf := it_pos h2 hf
    refine a_tin (pc := 1) (tgt := 56) (k := 2) F dX12_factOf_1 (by rw [h2]; decide) (by decide) (by decide) rfl (by decide) ?_
    refine a_aloadn (pc := 56) (j := 0) F dX12_factOf_56 rfl rfl ?_
    refine a_iloadn (pc := 57) (j := 3) F dX12_factOf_57 rfl rfl ?_
    obtain ⟨t2, ht2, hf⟩ := bd_some hf
    refine a_callV (pc := 58) (bs' := [bX12 y a0 v0]) (kb := 0) (j := 0) F [0] (c_X12_loadOf l D y ek n a0 _ _ _ ht2) (cwV 1 F.1.2.2.2.2 (gV q7_92 q7_94 qs_57 q1_11 q7_95) rfl rfl rfl (by decide +kernel) ⟨Nat.le_of_ble_eq_true rfl, Nat.le_of_ble_eq_true rfl⟩) rfl rfl rfl rfl (by decide) rfl rfl rfl rfl rfl rfl (Nat.le_of_ble_eq_true rfl) ⟨Nat.zero_le _, Nat.zero_le _⟩ dX12_factOf_58 ?_
    obtain rfl := Option.some.inj hf
    exact hret _ _ _ _ (Nat.zero_le _) (Nat.zero_le _) rfl dX12_factOf_61
  replace hf := it_neg h2 hf
  by_cases h3 : x1 = 3
  · replace hf := it_pos h3 hf
    refine a_tin (pc := 1) (tgt := 62) (k := 3) F dX12_factOf_1 (by rw [h3]; decide) (by decide) (by decide) rfl (by decide) ?_
    refine a_aloadn (pc := 62) (j := 0) F dX12_factOf_62 rfl rfl ?_
    refine a_iloadn (pc := 63) (j := 3) F dX12_factOf_63 rfl rfl ?_
    refine a_iconst (pc := 64) F dX12_factOf_64 kc_1 ?_
    obtain ⟨t3, ht3, hf⟩ := bd_some hf
    refine a_callV (pc := 65) (bs' := [bX12 y a0 v0]) (kb := 0) (j := 0) F [0] (c_X12_of l D y ek n a0 _ _ _ _ ht3) (cwV 2 F.1.2.2.2.2 (gV q7_111 q7_113 qs_61 q1_11 q7_114) rfl rfl rfl (by decide +kernel) ⟨Nat.le_of_ble_eq_true rfl, Nat.le_of_ble_eq_true rfl⟩) rfl rfl rfl rfl (by decide) rfl rfl rfl rfl rfl rfl (Nat.le_of_ble_eq_true rfl) ⟨Nat.zero_le _, Nat.zero_le _⟩ dX12_factOf_65 ?_
    obtain rfl := Option.some.inj hf
    exact hret _ _ _ _ (Nat.zero_le _) (Nat.zero_le _) rfl dX12_factOf_68
  replace hf := it_neg h3 hf
  by_cases h4 : x1 = 4
  · replace hf := it_pos h4 hf
    refine a_tin (pc := 1) (tgt := 69) (k := 4) F dX12_factOf_1 (by rw [h4]; decide) (by decide) (by decide) rfl (by decide) ?_
    refine a_aloadn (pc := 69) (j := 0) F dX12_factOf_69 rfl rfl ?_
    refine a_iloadn (pc := 70) (j := 3) F dX12_factOf_70 rfl rfl ?_
    obtain ⟨t4, ht4, hf⟩ := bd_some hf
    refine a_callS (pc := 71) (bs' := [bX12 y a0 v0]) F [] (c_X12_plankOf l D y ek n  _ _ ht4) (va_cwS 1 F.1.2.2.2.2 (gS q7_149 q7_150 q1_11 q7_151) rfl rfl rfl (by decide +kernel) ⟨Nat.le_of_ble_eq_true rfl, Nat.le_of_ble_eq_true rfl⟩) (by decide) rfl rfl rfl rfl rfl rfl (Nat.le_of_ble_eq_true rfl) ⟨Nat.zero_le _, Nat.zero_le _⟩ dX12_factOf_71 ?_
    refine a_iconst (pc := 74) F dX12_factOf_74 kc_1 ?_
    obtain ⟨t5, ht5, hf⟩ := bd_some hf
    refine a_callV (pc := 75) (bs' := [bX12 y a0 v0]) (kb := 0) (j := 0) F [0] (c_X12_ofPlank l D y ek n a0 _ _ _ _ ht5) (cwV 2 F.1.2.2.2.2 (gV q7_88 q7_90 qs_56 q1_11 q7_91) rfl rfl rfl (by decide +kernel) ⟨Nat.le_of_ble_eq_true rfl, Nat.le_of_ble_eq_true rfl⟩) rfl rfl rfl rfl (by decide) rfl rfl rfl rfl rfl rfl (Nat.le_of_ble_eq_true rfl) ⟨Nat.zero_le _, Nat.zero_le _⟩ dX12_factOf_75 ?_
    obtain rfl := Option.some.inj hf
    exact hret _ _ _ _ (Nat.zero_le _) (Nat.zero_le _) rfl dX12_factOf_78
  replace hf := it_neg h4 hf
  by_cases h5 : x1 = 5
  · replace hf := it_pos h5 hf
    refine a_tin (pc := 1) (tgt := 79) (k := 5) F dX12_factOf_1 (by rw [h5]; decide) (by decide) (by decide) rfl (by decide) ?_
    refine a_aloadn (pc := 79) (j := 0) F dX12_factOf_79 rfl rfl ?_
    refine a_get (pc := 80) (kb := 0) (j := 0) (f := 1) F iW_X12 rfl rfl rfl (by decide) (tl q6_69) (fun _ h => h) rfl dX12_factOf_80 ?_
    refine a_iconst (pc := 83) F dX12_factOf_83 kc_4 ?_
    refine a_ialdc (pc := 84) (kb := 0) (j := 1) (k := 4) F rfl rfl (by decide) (by decide) dX12_factOf_84 ?_
    obtain rfl := Option.some.inj hf
    exact hret _ _ _ _ (Nat.zero_le _) (Nat.zero_le _) rfl dX12_factOf_85
  replace hf := it_neg h5 hf
  by_cases h6 : x1 = 6
  · replace hf := it_pos h6 hf
    refine a_tin (pc := 1) (tgt := 86) (k := 6) F dX12_factOf_1 (by rw [h6]; decide) (by decide) (by decide) rfl (by decide) ?_
    refine a_aloadn (pc := 86) (j := 0) F dX12_factOf_86 rfl rfl ?_
    refine a_iloadn (pc := 87) (j := 3) F dX12_factOf_87 rfl rfl ?_
    obtain ⟨t6, ht6, hf⟩ := bd_some hf
    refine a_callV (pc := 88) (bs' := [bX12 y a0 v0]) (kb := 0) (j := 0) F [0] (c_X12_heightOf l D y ek n a0 _ _ _ ht6) (cwV 1 F.1.2.2.2.2 (gV q7_145 q7_147 qs_69 q1_11 q7_148) rfl rfl rfl (by decide +kernel) ⟨Nat.le_of_ble_eq_true rfl, Nat.le_of_ble_eq_true rfl⟩) rfl rfl rfl rfl (by decide) rfl rfl rfl rfl rfl rfl (Nat.le_of_ble_eq_true rfl) ⟨Nat.zero_le _, Nat.zero_le _⟩ dX12_factOf_88 ?_
    refine a_iconst (pc := 91) F dX12_factOf_91 kc_5 ?_
    refine a_icmp_le (pc := 92) (tgt := 99) F dX12_factOf_92 (by decide) (fun h => ?_) (fun h => ?_)
    · replace hf := it_pos h hf
      refine a_iconst (pc := 99) F dX12_factOf_99 kc_0 ?_
      obtain rfl := Option.some.inj hf
      exact hret _ _ _ _ (Nat.zero_le _) (Nat.zero_le _) rfl dX12_factOf_100
    · replace hf := it_neg h hf
      refine a_iconst (pc := 95) F dX12_factOf_95 kc_1 ?_
      refine a_goto (pc := 96) (tgt := 100) F dX12_factOf_96 (by decide) ?_
      obtain rfl := Option.some.inj hf
      exact hret _ _ _ _ (Nat.zero_le _) (Nat.zero_le _) rfl dX12_factOf_100
  replace hf := it_neg h6 hf
  by_cases h7 : x1 = 7
  · replace hf := it_pos h7 hf
    refine a_tin (pc := 1) (tgt := 101) (k := 7) F dX12_factOf_1 (by rw [h7]; decide) (by decide) (by decide) rfl (by decide) ?_
    refine a_aloadn (pc := 101) (j := 0) F dX12_factOf_101 rfl rfl ?_
    refine a_iloadn (pc := 102) (j := 3) F dX12_factOf_102 rfl rfl ?_
    obtain ⟨t7, ht7, hf⟩ := bd_some hf
    refine a_callS (pc := 103) (bs' := [bX12 y a0 v0]) F [] (c_X12_plankOf l D y ek n  _ _ ht7) (va_cwS 1 F.1.2.2.2.2 (gS q7_149 q7_150 q1_11 q7_151) rfl rfl rfl (by decide +kernel) ⟨Nat.le_of_ble_eq_true rfl, Nat.le_of_ble_eq_true rfl⟩) (by decide) rfl rfl rfl rfl rfl rfl (Nat.le_of_ble_eq_true rfl) ⟨Nat.zero_le _, Nat.zero_le _⟩ dX12_factOf_103 ?_
    obtain ⟨t8, ht8, hf⟩ := bd_some hf
    refine a_callV (pc := 106) (bs' := [bX12 y a0 v0]) (kb := 0) (j := 0) F [0] (c_X12_isLevel l D y ek n a0 _ _ _ ht8) (cwV 1 F.1.2.2.2.2 (gV q7_121 q7_123 qs_63 q1_11 q7_124) rfl rfl rfl (by decide +kernel) ⟨Nat.le_of_ble_eq_true rfl, Nat.le_of_ble_eq_true rfl⟩) rfl rfl rfl rfl (by decide) rfl rfl rfl rfl rfl rfl (Nat.le_of_ble_eq_true rfl) ⟨Nat.zero_le _, Nat.zero_le _⟩ dX12_factOf_106 ?_
    refine a_if_eq (pc := 109) (tgt := 116) F dX12_factOf_109 (by decide) (fun h => ?_) (fun h => ?_)
    · replace hf := it_pos h hf
      refine a_iconst (pc := 116) F dX12_factOf_116 kc_0 ?_
      obtain rfl := Option.some.inj hf
      exact hret _ _ _ _ (Nat.zero_le _) (Nat.zero_le _) rfl dX12_factOf_117
    · replace hf := it_neg h hf
      refine a_iconst (pc := 112) F dX12_factOf_112 kc_1 ?_
      refine a_goto (pc := 113) (tgt := 117) F dX12_factOf_113 (by decide) ?_
      obtain rfl := Option.some.inj hf
      exact hret _ _ _ _ (Nat.zero_le _) (Nat.zero_le _) rfl dX12_factOf_117
  replace hf := it_neg h7 hf
  refine a_tout (pc := 1) (tgt := 118) F dX12_factOf_1 (by have := sw_ne 0 h0 (by decide); have := sw_ne 1 h1 (by decide); have := sw_ne 2 h2 (by decide); have := sw_ne 3 h3 (by decide); have := sw_ne 4 h4 (by decide); have := sw_ne 5 h5 (by decide); have := sw_ne 6 h6 (by decide); have := sw_ne 7 h7 (by decide); omega) (by decide) ?_
  refine a_iloadn (pc := 118) (j := 2) F dX12_factOf_118 rfl rfl ?_
  obtain rfl := Option.some.inj hf
  exact hret _ _ _ _ (Nat.zero_le _) (Nat.zero_le _) rfl dX12_factOf_119

abbrev wX12_holdsLine : List Cond := Cond.code yX12_holdsLine cX12_holdsLine 10 (some .boolean) :: WALL
def m_X12_holdsLine (n : Nat) (v0 : St) (x1 : Int32) (x2 : Int32) : Option (Int32 × St) :=
nm (383 + (4 * x1)) (fun x4_1 =>
(if ix (x4_1 + 2) 2080 then nm (v0 1 ((x4_1 + 2)).toNatClampNeg) (fun x5_3 =>
bd (lp (fun (rc6 : Int32 × Int32 × St → Option (Int32 × St)) (x6l : Int32 × Int32 × St) =>
(if ix (x4_1 + 3) 2080 then (if (x6l.2.2 1 ((x4_1 + 3)).toNatClampNeg) ≤ x6l.2.1 then
some (x6l.1, x6l.2.2)
else
(if ix (431 + (2 * x6l.2.1)) 2080 then nm (x6l.2.2 1 ((431 + (2 * x6l.2.1))).toNatClampNeg) (fun x6_9 =>
bd ((if 8 < x6_9 then
(if x6_9 = 12 then
(if ix (x6l.1 - 1) 400 then (if ix (x6l.1 - 1) 400 then nm (su x6l.2.2 17 ((x6l.1 - 1)).toNatClampNeg (1 - (x6l.2.2 17 ((x6l.1 - 1)).toNatClampNeg))) (fun u21 =>
some (x6l.1, u21)) else none) else none)
else
(if ix ((x6l.1 + (-1)) - 1) 400 then nm (x6l.2.2 17 (((x6l.1 + (-1)) - 1)).toNatClampNeg) (fun x7_12 =>
(if ix (x6l.1 + (-1)) 400 then nm (x6l.2.2 17 ((x6l.1 + (-1))).toNatClampNeg) (fun x8_14 =>
bd ((if x6_9 = 10 then
(if x8_14 ≤ x7_12 then
some 0
else
some 1)
else
(if x6_9 = 11 then
(if x7_12 ≤ x8_14 then
some 0
else
some 1)
else
(if x6_9 = 13 then
(if (x7_12 + x8_14) = 2 then
some 1
else
some 0)
else
(if (x7_12 + x8_14) ≤ 0 then
some 0
else
some 1))))) (fun (t15 : Int32) =>
bd ((if x6_9 = 9 then
some (x7_12 + x8_14)
else
(if t15 = 0 then
some 0
else
some 1))) (fun (t16 : Int32) =>
(if ix ((x6l.1 + (-1)) - 1) 400 then nm (su x6l.2.2 17 (((x6l.1 + (-1)) - 1)).toNatClampNeg t16) (fun u18 =>
some ((x6l.1 + (-1)), u18)) else none)))) else none)) else none))
else
(if ix ((431 + (2 * x6l.2.1)) + 1) 2080 then bd (m_X12_factOf n x6l.2.2 x6_9 (x6l.2.2 1 (((431 + (2 * x6l.2.1)) + 1)).toNatClampNeg) x2) (fun t23 =>
(if ix x6l.1 400 then nm (su x6l.2.2 17 (x6l.1).toNatClampNeg t23) (fun u25 =>
some ((x6l.1 + 1), u25)) else none)) else none))) (fun (t10 : Int32 × St) =>
rc6 (t10.1, (x6l.2.1 + 1), t10.2))) else none)) else none)) n (0, x5_3, v0)) (fun (t4 : Int32 × St) =>
jn (fun (t5 : Unit) =>
some (1, t4.2)) (fun (K5 : Unit → Option (Int32 × St)) =>
(if t4.1 = 0 then
K5 ()
else
(if (t4.2 17 0) = 1 then
K5 ()
else
some (0, t4.2)))))) else none))
set_option maxHeartbeats 4000000 in
set_option maxRecDepth 100000 in
theorem c_X12_holdsLine (l : Launch) (D : va_G) (y : Nat → ClassId) (ek : EK) (n : Nat) (a0 : Nat → Nat) (v0 : St) (x1 : Int32) (x2 : Int32) (res : Int32 × St) (hf : m_X12_holdsLine n v0 x1 x2 = some res) : CI l yX12_holdsLine wX12_holdsLine { frames := 7, cells := 0, slots := 0, locals := 152 } D y ek [.ref (a0 0), .int x1, .int x2] [bX12 y a0 v0] (res.1) [bX12 y a0 res.2] 0 0 := by
  unfold m_X12_holdsLine at hf
  refine ci_of (cc := cX12_holdsLine) (maxL := 10) (by decide) rfl rfl (Nat.le_of_ble_eq_true rfl) ?_
  intro p e s m below meth c Q A F hret
  refine a_lv (lv' := [(0, .ref (a0 0)), (1, .int x1), (2, .int x2)]) rfl ?_
  refine a_iconst (pc := 0) F dX12_holdsLine_0 kc_0 ?_
  refine a_istoren (pc := 1) (lv' := [(0, .ref (a0 0)), (1, .int x1), (2, .int x2), (3, .int 0)]) F [1, 2, 3, 0] dX12_holdsLine_1 rfl (by decide) rfl ?_
  refine a_sipush (pc := 2) F dX12_holdsLine_2 ks_383 ?_
  refine a_iconst (pc := 5) F dX12_holdsLine_5 kc_4 ?_
  refine a_iloadn (pc := 6) (j := 1) F dX12_holdsLine_6 rfl rfl ?_
  refine a_imul (pc := 7) F dX12_holdsLine_7 ?_
  refine a_iadd (pc := 8) F dX12_holdsLine_8 ?_
  obtain ⟨x4_1, ex4_1, hf⟩ := nm_some hf
  refine a_nmi ex4_1 ?_
  refine a_istore (pc := 9) (lv' := [(0, .ref (a0 0)), (1, .int x1), (2, .int x2), (3, .int 0), (4, .int x4_1)]) F [1, 2, 3, 4, 0] dX12_holdsLine_9 (by decide) rfl ?_
  refine a_aloadn (pc := 11) (j := 0) F dX12_holdsLine_11 rfl rfl ?_
  refine a_get (pc := 12) (kb := 0) (j := 0) (f := 1) F iW_X12 rfl rfl rfl (by decide) (tl q6_69) (fun _ h => h) rfl dX12_holdsLine_12 ?_
  refine a_iload (pc := 15) (j := 4) F dX12_holdsLine_15 rfl ?_
  refine a_iconst (pc := 17) F dX12_holdsLine_17 kc_2 ?_
  refine a_iadd (pc := 18) F dX12_holdsLine_18 ?_
  obtain ⟨h2, hf⟩ := gd_some hf
  refine a_iald (pc := 19) (kb := 0) (j := 1) F rfl rfl h2 dX12_holdsLine_19 ?_
  obtain ⟨x5_3, ex5_3, hf⟩ := nm_some hf
  refine a_nmi ex5_3 ?_
  refine a_istore (pc := 20) (lv' := [(0, .ref (a0 0)), (1, .int x1), (2, .int x2), (3, .int 0), (4, .int x4_1), (5, .int x5_3)]) F [1, 2, 3, 4, 5, 0] dX12_holdsLine_20 (by decide) rfl ?_
  refine a_join 263 (fun (t4 : Int32 × St) => [(0, .ref (a0 0)), (3, .int t4.1)]) (fun (t4 : Int32 × St) => []) (fun (t4 : Int32 × St) => [bX12 y a0 t4.2]) hf (fun t4 hf => ?_) (fun t4 hf J4 => ?_)
  · try dsimp only at hf ⊢
    refine a_iloadn (pc := 263) (j := 1) F dX12_holdsLine_263 rfl rfl ?_
    refine a_jn 277 (fun (t5 : Unit) => []) (fun (t5 : Unit) => []) (fun (t5 : Unit) => [bX12 y a0 t4.2]) hf (fun t5 hf => ?_) (fun K5 hK5 hf => ?_)
    · try dsimp only at hf ⊢
      refine a_iconst (pc := 277) F dX12_holdsLine_277 kc_1 ?_
      refine a_goto (pc := 278) (tgt := 282) F dX12_holdsLine_278 (by decide) ?_
      obtain rfl := Option.some.inj hf
      exact hret _ _ _ _ (Nat.zero_le _) (Nat.zero_le _) (z_nar (Or.inr rfl)) dX12_holdsLine_282
    · try dsimp only at hf
      refine a_if_eq (pc := 264) (tgt := 277) F dX12_holdsLine_264 (by decide) (fun h => ?_) (fun h => ?_)
      · replace hf := it_pos h hf
        refine a_sub [] rfl ?_
        exact hK5 () hf
      · replace hf := it_neg h hf
        refine a_aloadn (pc := 267) (j := 0) F dX12_holdsLine_267 rfl rfl ?_
        refine a_get (pc := 268) (kb := 0) (j := 0) (f := 17) F iW_X12 rfl rfl rfl (by decide) (tl q6_85) (fun _ h => h) rfl dX12_holdsLine_268 ?_
        refine a_iconst (pc := 271) F dX12_holdsLine_271 kc_0 ?_
        refine a_ialdc (pc := 272) (kb := 0) (j := 8) (k := 0) F rfl rfl (by decide) (by decide) dX12_holdsLine_272 ?_
        refine a_iconst (pc := 273) F dX12_holdsLine_273 kc_1 ?_
        refine a_icmp_ne (pc := 274) (tgt := 281) F dX12_holdsLine_274 (by decide) (fun h => ?_) (fun h => ?_)
        · replace hf := it_neg h hf
          refine a_iconst (pc := 281) F dX12_holdsLine_281 kc_0 ?_
          obtain rfl := Option.some.inj hf
          exact hret _ _ _ _ (Nat.zero_le _) (Nat.zero_le _) (z_nar (Or.inl rfl)) dX12_holdsLine_282
        · replace hf := it_pos h hf
          refine a_sub [] rfl ?_
          exact hK5 () hf
  · refine a_sub [0, 2, 3, 4, 5] rfl ?_
    refine a_loop 22 (fun (x6l : Int32 × Int32 × St) => [(0, .ref (a0 0)), (2, .int x2), (3, .int x6l.1), (4, .int x4_1), (5, .int x6l.2.1)]) (fun (x6l : Int32 × Int32 × St) => [bX12 y a0 x6l.2.2]) (fun rc6 x6l ih6 hf => ?_) hf rfl rfl
    try dsimp only at hf ⊢
    refine a_iload (pc := 22) (j := 4) F dX12_holdsLine_22 rfl ?_
    refine a_aloadn (pc := 24) (j := 0) F dX12_holdsLine_24 rfl rfl ?_
    refine a_get (pc := 25) (kb := 0) (j := 0) (f := 1) F iW_X12 rfl rfl rfl (by decide) (tl q6_69) (fun _ h => h) rfl dX12_holdsLine_25 ?_
    refine a_iload (pc := 28) (j := 3) F dX12_holdsLine_28 rfl ?_
    refine a_iconst (pc := 30) F dX12_holdsLine_30 kc_3 ?_
    refine a_iadd (pc := 31) F dX12_holdsLine_31 ?_
    obtain ⟨h7, hf⟩ := gd_some hf
    refine a_iald (pc := 32) (kb := 0) (j := 1) F rfl rfl h7 dX12_holdsLine_32 ?_
    refine a_icmp_ge (pc := 33) (tgt := 263) F dX12_holdsLine_33 (by decide) (fun h => ?_) (fun h => ?_)
    · replace hf := it_pos h hf
      refine a_sub [0, 2] rfl ?_
      obtain rfl := Option.some.inj hf
      exact J4
    · replace hf := it_neg h hf
      refine a_aloadn (pc := 36) (j := 0) F dX12_holdsLine_36 rfl rfl ?_
      refine a_get (pc := 37) (kb := 0) (j := 0) (f := 1) F iW_X12 rfl rfl rfl (by decide) (tl q6_69) (fun _ h => h) rfl dX12_holdsLine_37 ?_
      refine a_sipush (pc := 40) F dX12_holdsLine_40 ks_431 ?_
      refine a_iconst (pc := 43) F dX12_holdsLine_43 kc_2 ?_
      refine a_iload (pc := 44) (j := 4) F dX12_holdsLine_44 rfl ?_
      refine a_imul (pc := 46) F dX12_holdsLine_46 ?_
      refine a_iadd (pc := 47) F dX12_holdsLine_47 ?_
      obtain ⟨h8, hf⟩ := gd_some hf
      refine a_iald (pc := 48) (kb := 0) (j := 1) F rfl rfl h8 dX12_holdsLine_48 ?_
      obtain ⟨x6_9, ex6_9, hf⟩ := nm_some hf
      refine a_nmi ex6_9 ?_
      refine a_istore (pc := 49) (lv' := [(0, .ref (a0 0)), (2, .int x2), (3, .int x6l.1), (4, .int x4_1), (5, .int x6l.2.1), (6, .int x6_9)]) F [1, 2, 3, 4, 5, 0] dX12_holdsLine_49 (by decide) rfl ?_
      refine a_iload (pc := 51) (j := 5) F dX12_holdsLine_51 rfl ?_
      refine a_bipush (pc := 53) F dX12_holdsLine_53 kb_8 ?_
      refine a_join 257 (fun (t10 : Int32 × St) => [(0, .ref (a0 0)), (2, .int x2), (3, .int t10.1), (4, .int x4_1), (5, .int x6l.2.1)]) (fun (t10 : Int32 × St) => []) (fun (t10 : Int32 × St) => [bX12 y a0 t10.2]) hf (fun t10 hf => ?_) (fun t10 hf J10 => ?_)
      · try dsimp only at hf ⊢
        refine a_iinc (pc := 257) (j := 4) (v := (x6l.2.1 + 1)) (lv' := [(0, .ref (a0 0)), (2, .int x2), (3, .int t10.1), (4, .int x4_1), (5, .int (x6l.2.1 + 1))]) F [1, 2, 3, 4, 0] dX12_holdsLine_257 rfl ki_1 (by decide) rfl ?_
        refine a_goto (pc := 260) (tgt := 22) F dX12_holdsLine_260 (by decide) ?_
        exact ih6 (t10.1, (x6l.2.1 + 1), t10.2) hf
      · refine a_icmp_gt (pc := 55) (tgt := 92) F dX12_holdsLine_55 (by decide) (fun h => ?_) (fun h => ?_)
        · replace hf := it_pos h hf
          refine a_iload (pc := 92) (j := 5) F dX12_holdsLine_92 rfl ?_
          refine a_bipush (pc := 94) F dX12_holdsLine_94 kb_12 ?_
          refine a_icmp_ne (pc := 96) (tgt := 120) F dX12_holdsLine_96 (by decide) (fun h => ?_) (fun h => ?_)
          · replace hf := it_neg h hf
            refine a_iinc (pc := 120) (j := 2) (v := (x6l.1 + (-1))) (lv' := [(0, .ref (a0 0)), (2, .int x2), (3, .int (x6l.1 + (-1))), (4, .int x4_1), (5, .int x6l.2.1), (6, .int x6_9)]) F [1, 2, 0, 3, 4, 5] dX12_holdsLine_120 rfl ki_m1 (by decide) rfl ?_
            refine a_aloadn (pc := 123) (j := 0) F dX12_holdsLine_123 rfl rfl ?_
            refine a_get (pc := 124) (kb := 0) (j := 0) (f := 17) F iW_X12 rfl rfl rfl (by decide) (tl q6_85) (fun _ h => h) rfl dX12_holdsLine_124 ?_
            refine a_iloadn (pc := 127) (j := 2) F dX12_holdsLine_127 rfl rfl ?_
            refine a_iconst (pc := 128) F dX12_holdsLine_128 kc_1 ?_
            refine a_isub (pc := 129) F dX12_holdsLine_129 ?_
            obtain ⟨h11, hf⟩ := gd_some hf
            refine a_iald (pc := 130) (kb := 0) (j := 8) F rfl rfl h11 dX12_holdsLine_130 ?_
            obtain ⟨x7_12, ex7_12, hf⟩ := nm_some hf
            refine a_nmi ex7_12 ?_
            refine a_istore (pc := 131) (lv' := [(0, .ref (a0 0)), (2, .int x2), (3, .int (x6l.1 + (-1))), (4, .int x4_1), (5, .int x6l.2.1), (6, .int x6_9), (7, .int x7_12)]) F [1, 2, 3, 4, 5, 6, 0] dX12_holdsLine_131 (by decide) rfl ?_
            refine a_aloadn (pc := 133) (j := 0) F dX12_holdsLine_133 rfl rfl ?_
            refine a_get (pc := 134) (kb := 0) (j := 0) (f := 17) F iW_X12 rfl rfl rfl (by decide) (tl q6_85) (fun _ h => h) rfl dX12_holdsLine_134 ?_
            refine a_iloadn (pc := 137) (j := 2) F dX12_holdsLine_137 rfl rfl ?_
            obtain ⟨h13, hf⟩ := gd_some hf
            refine a_iald (pc := 138) (kb := 0) (j := 8) F rfl rfl h13 dX12_holdsLine_138 ?_
            obtain ⟨x8_14, ex8_14, hf⟩ := nm_some hf
            refine a_nmi ex8_14 ?_
            refine a_istore (pc := 139) (lv' := [(0, .ref (a0 0)), (2, .int x2), (3, .int (x6l.1 + (-1))), (4, .int x4_1), (5, .int x6l.2.1), (6, .int x6_9), (7, .int x7_12), (8, .int x8_14)]) F [1, 2, 3, 4, 5, 6, 7, 0] dX12_holdsLine_139 (by decide) rfl ?_
            refine a_iload (pc := 141) (j := 5) F dX12_holdsLine_141 rfl ?_
            refine a_bipush (pc := 143) F dX12_holdsLine_143 kb_10 ?_
            refine a_join 222 (fun (t15 : Int32) => [(0, .ref (a0 0)), (2, .int x2), (3, .int (x6l.1 + (-1))), (4, .int x4_1), (5, .int x6l.2.1), (6, .int x6_9), (7, .int x7_12), (8, .int x8_14)]) (fun (t15 : Int32) => [.int t15]) (fun (t15 : Int32) => [bX12 y a0 x6l.2.2]) hf (fun t15 hf => ?_) (fun t15 hf J15 => ?_)
            · try dsimp only at hf ⊢
              refine a_istore (pc := 222) (lv' := [(0, .ref (a0 0)), (2, .int x2), (3, .int (x6l.1 + (-1))), (4, .int x4_1), (5, .int x6l.2.1), (6, .int x6_9), (7, .int x7_12), (8, .int x8_14), (9, .int t15)]) F [1, 2, 3, 4, 5, 6, 7, 8, 0] dX12_holdsLine_222 (by decide) rfl ?_
              refine a_aloadn (pc := 224) (j := 0) F dX12_holdsLine_224 rfl rfl ?_
              refine a_get (pc := 225) (kb := 0) (j := 0) (f := 17) F iW_X12 rfl rfl rfl (by decide) (tl q6_85) (fun _ h => h) rfl dX12_holdsLine_225 ?_
              refine a_iloadn (pc := 228) (j := 2) F dX12_holdsLine_228 rfl rfl ?_
              refine a_iconst (pc := 229) F dX12_holdsLine_229 kc_1 ?_
              refine a_isub (pc := 230) F dX12_holdsLine_230 ?_
              refine a_iload (pc := 231) (j := 5) F dX12_holdsLine_231 rfl ?_
              refine a_bipush (pc := 233) F dX12_holdsLine_233 kb_9 ?_
              refine a_join 256 (fun (t16 : Int32) => [(0, .ref (a0 0)), (2, .int x2), (3, .int (x6l.1 + (-1))), (4, .int x4_1), (5, .int x6l.2.1)]) (fun (t16 : Int32) => [.int t16, .int ((x6l.1 + (-1)) - 1), .ref (a0 18)]) (fun (t16 : Int32) => [bX12 y a0 x6l.2.2]) hf (fun t16 hf => ?_) (fun t16 hf J16 => ?_)
              · try dsimp only at hf ⊢
                obtain ⟨h17, hf⟩ := gd_some hf
                obtain ⟨u18, eu18, hf⟩ := nm_some hf
                refine a_iast (pc := 256) (kb := 0) (j := 8) (bs' := [bX12 y a0 u18]) F rfl rfl h17 (by rw [eu18]; rfl) dX12_holdsLine_256 ?_
                obtain rfl := Option.some.inj hf
                exact J10
              · refine a_icmp_ne (pc := 235) (tgt := 246) F dX12_holdsLine_235 (by decide) (fun h => ?_) (fun h => ?_)
                · replace hf := it_neg h hf
                  refine a_iload (pc := 246) (j := 8) F dX12_holdsLine_246 rfl ?_
                  refine a_if_eq (pc := 248) (tgt := 255) F dX12_holdsLine_248 (by decide) (fun h => ?_) (fun h => ?_)
                  · replace hf := it_pos h hf
                    refine a_iconst (pc := 255) F dX12_holdsLine_255 kc_0 ?_
                    refine a_sub [0, 1, 2, 3, 4] rfl ?_
                    obtain rfl := Option.some.inj hf
                    exact J16
                  · replace hf := it_neg h hf
                    refine a_iconst (pc := 251) F dX12_holdsLine_251 kc_1 ?_
                    refine a_goto (pc := 252) (tgt := 256) F dX12_holdsLine_252 (by decide) ?_
                    refine a_sub [0, 1, 2, 3, 4] rfl ?_
                    obtain rfl := Option.some.inj hf
                    exact J16
                · replace hf := it_pos h hf
                  refine a_iload (pc := 238) (j := 6) F dX12_holdsLine_238 rfl ?_
                  refine a_iload (pc := 240) (j := 7) F dX12_holdsLine_240 rfl ?_
                  refine a_iadd (pc := 242) F dX12_holdsLine_242 ?_
                  refine a_goto (pc := 243) (tgt := 256) F dX12_holdsLine_243 (by decide) ?_
                  refine a_sub [0, 1, 2, 3, 4] rfl ?_
                  obtain rfl := Option.some.inj hf
                  exact J16
            · refine a_icmp_ne (pc := 145) (tgt := 163) F dX12_holdsLine_145 (by decide) (fun h => ?_) (fun h => ?_)
              · replace hf := it_neg h hf
                refine a_iload (pc := 163) (j := 5) F dX12_holdsLine_163 rfl ?_
                refine a_bipush (pc := 165) F dX12_holdsLine_165 kb_11 ?_
                refine a_icmp_ne (pc := 167) (tgt := 185) F dX12_holdsLine_167 (by decide) (fun h => ?_) (fun h => ?_)
                · replace hf := it_neg h hf
                  refine a_iload (pc := 185) (j := 5) F dX12_holdsLine_185 rfl ?_
                  refine a_bipush (pc := 187) F dX12_holdsLine_187 kb_13 ?_
                  refine a_icmp_ne (pc := 189) (tgt := 209) F dX12_holdsLine_189 (by decide) (fun h => ?_) (fun h => ?_)
                  · replace hf := it_neg h hf
                    refine a_iload (pc := 209) (j := 6) F dX12_holdsLine_209 rfl ?_
                    refine a_iload (pc := 211) (j := 7) F dX12_holdsLine_211 rfl ?_
                    refine a_iadd (pc := 213) F dX12_holdsLine_213 ?_
                    refine a_if_le (pc := 214) (tgt := 221) F dX12_holdsLine_214 (by decide) (fun h => ?_) (fun h => ?_)
                    · replace hf := it_pos h hf
                      refine a_iconst (pc := 221) F dX12_holdsLine_221 kc_0 ?_
                      obtain rfl := Option.some.inj hf
                      exact J15
                    · replace hf := it_neg h hf
                      refine a_iconst (pc := 217) F dX12_holdsLine_217 kc_1 ?_
                      refine a_goto (pc := 218) (tgt := 222) F dX12_holdsLine_218 (by decide) ?_
                      obtain rfl := Option.some.inj hf
                      exact J15
                  · replace hf := it_pos h hf
                    refine a_iload (pc := 192) (j := 6) F dX12_holdsLine_192 rfl ?_
                    refine a_iload (pc := 194) (j := 7) F dX12_holdsLine_194 rfl ?_
                    refine a_iadd (pc := 196) F dX12_holdsLine_196 ?_
                    refine a_iconst (pc := 197) F dX12_holdsLine_197 kc_2 ?_
                    refine a_icmp_ne (pc := 198) (tgt := 205) F dX12_holdsLine_198 (by decide) (fun h => ?_) (fun h => ?_)
                    · replace hf := it_neg h hf
                      refine a_iconst (pc := 205) F dX12_holdsLine_205 kc_0 ?_
                      refine a_goto (pc := 206) (tgt := 222) F dX12_holdsLine_206 (by decide) ?_
                      obtain rfl := Option.some.inj hf
                      exact J15
                    · replace hf := it_pos h hf
                      refine a_iconst (pc := 201) F dX12_holdsLine_201 kc_1 ?_
                      refine a_goto (pc := 202) (tgt := 222) F dX12_holdsLine_202 (by decide) ?_
                      obtain rfl := Option.some.inj hf
                      exact J15
                · replace hf := it_pos h hf
                  refine a_iload (pc := 170) (j := 6) F dX12_holdsLine_170 rfl ?_
                  refine a_iload (pc := 172) (j := 7) F dX12_holdsLine_172 rfl ?_
                  refine a_icmp_le (pc := 174) (tgt := 181) F dX12_holdsLine_174 (by decide) (fun h => ?_) (fun h => ?_)
                  · replace hf := it_pos h hf
                    refine a_iconst (pc := 181) F dX12_holdsLine_181 kc_0 ?_
                    refine a_goto (pc := 182) (tgt := 222) F dX12_holdsLine_182 (by decide) ?_
                    obtain rfl := Option.some.inj hf
                    exact J15
                  · replace hf := it_neg h hf
                    refine a_iconst (pc := 177) F dX12_holdsLine_177 kc_1 ?_
                    refine a_goto (pc := 178) (tgt := 222) F dX12_holdsLine_178 (by decide) ?_
                    obtain rfl := Option.some.inj hf
                    exact J15
              · replace hf := it_pos h hf
                refine a_iload (pc := 148) (j := 6) F dX12_holdsLine_148 rfl ?_
                refine a_iload (pc := 150) (j := 7) F dX12_holdsLine_150 rfl ?_
                refine a_icmp_ge (pc := 152) (tgt := 159) F dX12_holdsLine_152 (by decide) (fun h => ?_) (fun h => ?_)
                · replace hf := it_pos h hf
                  refine a_iconst (pc := 159) F dX12_holdsLine_159 kc_0 ?_
                  refine a_goto (pc := 160) (tgt := 222) F dX12_holdsLine_160 (by decide) ?_
                  obtain rfl := Option.some.inj hf
                  exact J15
                · replace hf := it_neg h hf
                  refine a_iconst (pc := 155) F dX12_holdsLine_155 kc_1 ?_
                  refine a_goto (pc := 156) (tgt := 222) F dX12_holdsLine_156 (by decide) ?_
                  obtain rfl := Option.some.inj hf
                  exact J15
          · replace hf := it_pos h hf
            refine a_aloadn (pc := 99) (j := 0) F dX12_holdsLine_99 rfl rfl ?_
            refine a_get (pc := 100) (kb := 0) (j := 0) (f := 17) F iW_X12 rfl rfl rfl (by decide) (tl q6_85) (fun _ h => h) rfl dX12_holdsLine_100 ?_
            refine a_iloadn (pc := 103) (j := 2) F dX12_holdsLine_103 rfl rfl ?_
            refine a_iconst (pc := 104) F dX12_holdsLine_104 kc_1 ?_
            refine a_isub (pc := 105) F dX12_holdsLine_105 ?_
            refine a_iconst (pc := 106) F dX12_holdsLine_106 kc_1 ?_
            refine a_aloadn (pc := 107) (j := 0) F dX12_holdsLine_107 rfl rfl ?_
            refine a_get (pc := 108) (kb := 0) (j := 0) (f := 17) F iW_X12 rfl rfl rfl (by decide) (tl q6_85) (fun _ h => h) rfl dX12_holdsLine_108 ?_
            refine a_iloadn (pc := 111) (j := 2) F dX12_holdsLine_111 rfl rfl ?_
            refine a_iconst (pc := 112) F dX12_holdsLine_112 kc_1 ?_
            refine a_isub (pc := 113) F dX12_holdsLine_113 ?_
            obtain ⟨h19, hf⟩ := gd_some hf
            refine a_iald (pc := 114) (kb := 0) (j := 8) F rfl rfl h19 dX12_holdsLine_114 ?_
            refine a_isub (pc := 115) F dX12_holdsLine_115 ?_
            obtain ⟨h20, hf⟩ := gd_some hf
            obtain ⟨u21, eu21, hf⟩ := nm_some hf
            refine a_iast (pc := 116) (kb := 0) (j := 8) (bs' := [bX12 y a0 u21]) F rfl rfl h20 (by rw [eu21]; rfl) dX12_holdsLine_116 ?_
            refine a_goto (pc := 117) (tgt := 257) F dX12_holdsLine_117 (by decide) ?_
            refine a_sub [0, 1, 2, 3, 4] rfl ?_
            obtain rfl := Option.some.inj hf
            exact J10
        · replace hf := it_neg h hf
          refine a_aloadn (pc := 58) (j := 0) F dX12_holdsLine_58 rfl rfl ?_
          refine a_get (pc := 59) (kb := 0) (j := 0) (f := 17) F iW_X12 rfl rfl rfl (by decide) (tl q6_85) (fun _ h => h) rfl dX12_holdsLine_59 ?_
          refine a_iloadn (pc := 62) (j := 2) F dX12_holdsLine_62 rfl rfl ?_
          refine a_aloadn (pc := 63) (j := 0) F dX12_holdsLine_63 rfl rfl ?_
          refine a_iload (pc := 64) (j := 5) F dX12_holdsLine_64 rfl ?_
          refine a_aloadn (pc := 66) (j := 0) F dX12_holdsLine_66 rfl rfl ?_
          refine a_get (pc := 67) (kb := 0) (j := 0) (f := 1) F iW_X12 rfl rfl rfl (by decide) (tl q6_69) (fun _ h => h) rfl dX12_holdsLine_67 ?_
          refine a_sipush (pc := 70) F dX12_holdsLine_70 ks_431 ?_
          refine a_iconst (pc := 73) F dX12_holdsLine_73 kc_2 ?_
          refine a_iload (pc := 74) (j := 4) F dX12_holdsLine_74 rfl ?_
          refine a_imul (pc := 76) F dX12_holdsLine_76 ?_
          refine a_iadd (pc := 77) F dX12_holdsLine_77 ?_
          refine a_iconst (pc := 78) F dX12_holdsLine_78 kc_1 ?_
          refine a_iadd (pc := 79) F dX12_holdsLine_79 ?_
          obtain ⟨h22, hf⟩ := gd_some hf
          refine a_iald (pc := 80) (kb := 0) (j := 1) F rfl rfl h22 dX12_holdsLine_80 ?_
          refine a_iloadn (pc := 81) (j := 1) F dX12_holdsLine_81 rfl rfl ?_
          obtain ⟨t23, ht23, hf⟩ := bd_some hf
          refine a_callV (pc := 82) (bs' := [bX12 y a0 x6l.2.2]) (kb := 0) (j := 0) F [0] (c_X12_factOf l D y ek n a0 _ _ _ _ _ ht23) (cwV 3 F.1.2.2.2.2 (gV q7_141 q7_143 qs_68 q1_11 q7_144) rfl rfl rfl (by decide +kernel) ⟨Nat.le_of_ble_eq_true rfl, Nat.le_of_ble_eq_true rfl⟩) rfl rfl rfl rfl (by decide) rfl rfl rfl rfl rfl rfl (Nat.le_of_ble_eq_true rfl) ⟨Nat.zero_le _, Nat.zero_le _⟩ dX12_holdsLine_82 ?_
          obtain ⟨h24, hf⟩ := gd_some hf
          obtain ⟨u25, eu25, hf⟩ := nm_some hf
          refine a_iast (pc := 85) (kb := 0) (j := 8) (bs' := [bX12 y a0 u25]) F rfl rfl h24 (by rw [eu25]; rfl) dX12_holdsLine_85 ?_
          refine a_iinc (pc := 86) (j := 2) (v := (x6l.1 + 1)) (lv' := [(0, .ref (a0 0)), (2, .int x2), (3, .int (x6l.1 + 1)), (4, .int x4_1), (5, .int x6l.2.1), (6, .int x6_9)]) F [1, 2, 0, 3, 4, 5] dX12_holdsLine_86 rfl ki_1 (by decide) rfl ?_
          refine a_goto (pc := 89) (tgt := 257) F dX12_holdsLine_89 (by decide) ?_
          refine a_sub [0, 1, 2, 3, 4] rfl ?_
          obtain rfl := Option.some.inj hf
          exact J10

abbrev wX12_sumOf : List Cond := Cond.code yX12_sumOf cX12_sumOf 5 (some .int) :: WALL
def m_X12_sumOf (n : Nat) (v0 : St) (x1 : Int32) (x2 : Int32) : Option (Int32 × St) :=
bd (lp (fun (rc2 : Int32 × Int32 × St → Option (Int32 × St)) (x2l : Int32 × Int32 × St) =>
(if (x2l.2.2 1 3) = 1 then
(if (x2l.2.2 1 382) ≤ x2l.2.1 then
some (x2l.1, x2l.2.2)
else
(if ix (383 + (4 * x2l.2.1)) 2080 then bd ((if (x2l.2.2 1 ((383 + (4 * x2l.2.1))).toNatClampNeg) = x1 then
bd (m_X12_holdsLine n x2l.2.2 x2l.2.1 x2) (fun t5 =>
(if t5.1 = 0 then
some (x2l.1, t5.2)
else
(if ix ((383 + (4 * x2l.2.1)) + 1) 2080 then nm (x2l.1 + (t5.2 1 (((383 + (4 * x2l.2.1)) + 1)).toNatClampNeg)) (fun x3_7 =>
some (x3_7, t5.2)) else none)))
else
some (x2l.1, x2l.2.2))) (fun (t4 : Int32 × St) =>
rc2 (t4.1, (x2l.2.1 + 1), t4.2)) else none))
else
some (x2l.1, x2l.2.2))) n (0, 0, v0)) (fun (t1 : Int32 × St) =>
some (t1.1, t1.2))
set_option maxHeartbeats 4000000 in
set_option maxRecDepth 100000 in
theorem c_X12_sumOf (l : Launch) (D : va_G) (y : Nat → ClassId) (ek : EK) (n : Nat) (a0 : Nat → Nat) (v0 : St) (x1 : Int32) (x2 : Int32) (res : Int32 × St) (hf : m_X12_sumOf n v0 x1 x2 = some res) : CI l yX12_sumOf wX12_sumOf { frames := 8, cells := 0, slots := 0, locals := 181 } D y ek [.ref (a0 0), .int x1, .int x2] [bX12 y a0 v0] (res.1) [bX12 y a0 res.2] 0 0 := by
  unfold m_X12_sumOf at hf
  refine ci_of (cc := cX12_sumOf) (maxL := 5) (by decide) rfl rfl (Nat.le_of_ble_eq_true rfl) ?_
  intro p e s m below meth c Q A F hret
  refine a_lv (lv' := [(0, .ref (a0 0)), (1, .int x1), (2, .int x2)]) rfl ?_
  refine a_iconst (pc := 0) F dX12_sumOf_0 kc_0 ?_
  refine a_istoren (pc := 1) (lv' := [(0, .ref (a0 0)), (1, .int x1), (2, .int x2), (3, .int 0)]) F [1, 2, 3, 0] dX12_sumOf_1 rfl (by decide) rfl ?_
  refine a_iconst (pc := 2) F dX12_sumOf_2 kc_0 ?_
  refine a_istore (pc := 3) (lv' := [(0, .ref (a0 0)), (1, .int x1), (2, .int x2), (3, .int 0), (4, .int 0)]) F [1, 2, 3, 4, 0] dX12_sumOf_3 (by decide) rfl ?_
  refine a_join 79 (fun (t1 : Int32 × St) => [(3, .int t1.1)]) (fun (t1 : Int32 × St) => []) (fun (t1 : Int32 × St) => [bX12 y a0 t1.2]) hf (fun t1 hf => ?_) (fun t1 hf J1 => ?_)
  · try dsimp only at hf ⊢
    refine a_iloadn (pc := 79) (j := 0) F dX12_sumOf_79 rfl rfl ?_
    obtain rfl := Option.some.inj hf
    exact hret _ _ _ _ (Nat.zero_le _) (Nat.zero_le _) rfl dX12_sumOf_80
  · refine a_loop 5 (fun (x2l : Int32 × Int32 × St) => [(0, .ref (a0 0)), (1, .int x1), (2, .int x2), (3, .int x2l.1), (4, .int x2l.2.1)]) (fun (x2l : Int32 × Int32 × St) => [bX12 y a0 x2l.2.2]) (fun rc2 x2l ih2 hf => ?_) hf rfl rfl
    try dsimp only at hf ⊢
    refine a_aloadn (pc := 5) (j := 0) F dX12_sumOf_5 rfl rfl ?_
    refine a_get (pc := 6) (kb := 0) (j := 0) (f := 1) F iW_X12 rfl rfl rfl (by decide) (tl q6_69) (fun _ h => h) rfl dX12_sumOf_6 ?_
    refine a_iconst (pc := 9) F dX12_sumOf_9 kc_3 ?_
    refine a_ialdc (pc := 10) (kb := 0) (j := 1) (k := 3) F rfl rfl (by decide) (by decide) dX12_sumOf_10 ?_
    refine a_iconst (pc := 11) F dX12_sumOf_11 kc_1 ?_
    refine a_icmp_ne (pc := 12) (tgt := 79) F dX12_sumOf_12 (by decide) (fun h => ?_) (fun h => ?_)
    · replace hf := it_neg h hf
      refine a_sub [3] rfl ?_
      obtain rfl := Option.some.inj hf
      exact J1
    · replace hf := it_pos h hf
      refine a_iload (pc := 15) (j := 4) F dX12_sumOf_15 rfl ?_
      refine a_aloadn (pc := 17) (j := 0) F dX12_sumOf_17 rfl rfl ?_
      refine a_get (pc := 18) (kb := 0) (j := 0) (f := 1) F iW_X12 rfl rfl rfl (by decide) (tl q6_69) (fun _ h => h) rfl dX12_sumOf_18 ?_
      refine a_sipush (pc := 21) F dX12_sumOf_21 ks_382 ?_
      refine a_ialdc (pc := 24) (kb := 0) (j := 1) (k := 382) F rfl rfl (by decide) (by decide) dX12_sumOf_24 ?_
      refine a_icmp_ge (pc := 25) (tgt := 79) F dX12_sumOf_25 (by decide) (fun h => ?_) (fun h => ?_)
      · replace hf := it_pos h hf
        refine a_sub [3] rfl ?_
        obtain rfl := Option.some.inj hf
        exact J1
      · replace hf := it_neg h hf
        refine a_aloadn (pc := 28) (j := 0) F dX12_sumOf_28 rfl rfl ?_
        refine a_get (pc := 29) (kb := 0) (j := 0) (f := 1) F iW_X12 rfl rfl rfl (by decide) (tl q6_69) (fun _ h => h) rfl dX12_sumOf_29 ?_
        refine a_sipush (pc := 32) F dX12_sumOf_32 ks_383 ?_
        refine a_iconst (pc := 35) F dX12_sumOf_35 kc_4 ?_
        refine a_iload (pc := 36) (j := 4) F dX12_sumOf_36 rfl ?_
        refine a_imul (pc := 38) F dX12_sumOf_38 ?_
        refine a_iadd (pc := 39) F dX12_sumOf_39 ?_
        obtain ⟨h3, hf⟩ := gd_some hf
        refine a_iald (pc := 40) (kb := 0) (j := 1) F rfl rfl h3 dX12_sumOf_40 ?_
        refine a_iloadn (pc := 41) (j := 1) F dX12_sumOf_41 rfl rfl ?_
        refine a_join 73 (fun (t4 : Int32 × St) => [(0, .ref (a0 0)), (1, .int x1), (2, .int x2), (3, .int t4.1), (4, .int x2l.2.1)]) (fun (t4 : Int32 × St) => []) (fun (t4 : Int32 × St) => [bX12 y a0 t4.2]) hf (fun t4 hf => ?_) (fun t4 hf J4 => ?_)
        · try dsimp only at hf ⊢
          refine a_iinc (pc := 73) (j := 4) (v := (x2l.2.1 + 1)) (lv' := [(0, .ref (a0 0)), (1, .int x1), (2, .int x2), (3, .int t4.1), (4, .int (x2l.2.1 + 1))]) F [1, 2, 3, 4, 0] dX12_sumOf_73 rfl ki_1 (by decide) rfl ?_
          refine a_goto (pc := 76) (tgt := 5) F dX12_sumOf_76 (by decide) ?_
          exact ih2 (t4.1, (x2l.2.1 + 1), t4.2) hf
        · refine a_icmp_ne (pc := 42) (tgt := 73) F dX12_sumOf_42 (by decide) (fun h => ?_) (fun h => ?_)
          · replace hf := it_neg h hf
            obtain rfl := Option.some.inj hf
            exact J4
          · replace hf := it_pos h hf
            refine a_aloadn (pc := 45) (j := 0) F dX12_sumOf_45 rfl rfl ?_
            refine a_iload (pc := 46) (j := 4) F dX12_sumOf_46 rfl ?_
            refine a_iloadn (pc := 48) (j := 2) F dX12_sumOf_48 rfl rfl ?_
            obtain ⟨t5, ht5, hf⟩ := bd_some hf
            refine a_callV (pc := 49) (bs' := [bX12 y a0 t5.2]) (kb := 0) (j := 0) F [0] (c_X12_holdsLine l D y ek n a0 _ _ _ _ ht5) (cwV 2 F.1.2.2.2.2 (gV q7_137 q7_139 qs_67 q1_11 q7_140) rfl rfl rfl (by decide +kernel) ⟨Nat.le_of_ble_eq_true rfl, Nat.le_of_ble_eq_true rfl⟩) rfl rfl rfl rfl (by decide) rfl rfl rfl rfl rfl rfl (Nat.le_of_ble_eq_true rfl) ⟨Nat.zero_le _, Nat.zero_le _⟩ dX12_sumOf_49 ?_
            refine a_if_eq (pc := 52) (tgt := 73) F dX12_sumOf_52 (by decide) (fun h => ?_) (fun h => ?_)
            · replace hf := it_pos h hf
              obtain rfl := Option.some.inj hf
              exact J4
            · replace hf := it_neg h hf
              refine a_iloadn (pc := 55) (j := 3) F dX12_sumOf_55 rfl rfl ?_
              refine a_aloadn (pc := 56) (j := 0) F dX12_sumOf_56 rfl rfl ?_
              refine a_get (pc := 57) (kb := 0) (j := 0) (f := 1) F iW_X12 rfl rfl rfl (by decide) (tl q6_69) (fun _ h => h) rfl dX12_sumOf_57 ?_
              refine a_sipush (pc := 60) F dX12_sumOf_60 ks_383 ?_
              refine a_iconst (pc := 63) F dX12_sumOf_63 kc_4 ?_
              refine a_iload (pc := 64) (j := 4) F dX12_sumOf_64 rfl ?_
              refine a_imul (pc := 66) F dX12_sumOf_66 ?_
              refine a_iadd (pc := 67) F dX12_sumOf_67 ?_
              refine a_iconst (pc := 68) F dX12_sumOf_68 kc_1 ?_
              refine a_iadd (pc := 69) F dX12_sumOf_69 ?_
              obtain ⟨h6, hf⟩ := gd_some hf
              refine a_iald (pc := 70) (kb := 0) (j := 1) F rfl rfl h6 dX12_sumOf_70 ?_
              refine a_iadd (pc := 71) F dX12_sumOf_71 ?_
              obtain ⟨x3_7, ex3_7, hf⟩ := nm_some hf
              refine a_nmi ex3_7 ?_
              refine a_istoren (pc := 72) (lv' := [(0, .ref (a0 0)), (1, .int x1), (2, .int x2), (3, .int x3_7), (4, .int x2l.2.1)]) F [1, 2, 3, 0, 4] dX12_sumOf_72 rfl (by decide) rfl ?_
              obtain rfl := Option.some.inj hf
              exact J4

abbrev wX12_paysBy : List Cond := Cond.code yX12_paysBy cX12_paysBy 2 (some .int) :: WALL
def m_X12_paysBy (n : Nat) (v0 : St) (x1 : Int32) : Option (Int32 × St) :=
bd (m_X12_heightOf n v0 x1) (fun t1 =>
bd (m_X12_sumOf n v0 0 x1) (fun t2 =>
some ((((v0 1 9) * t1) + t2.1), t2.2)))
set_option maxHeartbeats 4000000 in
set_option maxRecDepth 100000 in
theorem c_X12_paysBy (l : Launch) (D : va_G) (y : Nat → ClassId) (ek : EK) (n : Nat) (a0 : Nat → Nat) (v0 : St) (x1 : Int32) (res : Int32 × St) (hf : m_X12_paysBy n v0 x1 = some res) : CI l yX12_paysBy wX12_paysBy { frames := 9, cells := 0, slots := 0, locals := 205 } D y ek [.ref (a0 0), .int x1] [bX12 y a0 v0] (res.1) [bX12 y a0 res.2] 0 0 := by
  unfold m_X12_paysBy at hf
  refine ci_of (cc := cX12_paysBy) (maxL := 2) (by decide) rfl rfl (Nat.le_of_ble_eq_true rfl) ?_
  intro p e s m below meth c Q A F hret
  refine a_lv (lv' := [(0, .ref (a0 0)), (1, .int x1)]) rfl ?_
  refine a_aloadn (pc := 0) (j := 0) F dX12_paysBy_0 rfl rfl ?_
  refine a_get (pc := 1) (kb := 0) (j := 0) (f := 1) F iW_X12 rfl rfl rfl (by decide) (tl q6_69) (fun _ h => h) rfl dX12_paysBy_1 ?_
  refine a_bipush (pc := 4) F dX12_paysBy_4 kb_9 ?_
  refine a_ialdc (pc := 6) (kb := 0) (j := 1) (k := 9) F rfl rfl (by decide) (by decide) dX12_paysBy_6 ?_
  refine a_aloadn (pc := 7) (j := 0) F dX12_paysBy_7 rfl rfl ?_
  refine a_iloadn (pc := 8) (j := 1) F dX12_paysBy_8 rfl rfl ?_
  obtain ⟨t1, ht1, hf⟩ := bd_some hf
  refine a_callV (pc := 9) (bs' := [bX12 y a0 v0]) (kb := 0) (j := 0) F [0] (c_X12_heightOf l D y ek n a0 _ _ _ ht1) (cwV 1 F.1.2.2.2.2 (gV q7_145 q7_147 qs_69 q1_11 q7_148) rfl rfl rfl (by decide +kernel) ⟨Nat.le_of_ble_eq_true rfl, Nat.le_of_ble_eq_true rfl⟩) rfl rfl rfl rfl (by decide) rfl rfl rfl rfl rfl rfl (Nat.le_of_ble_eq_true rfl) ⟨Nat.zero_le _, Nat.zero_le _⟩ dX12_paysBy_9 ?_
  refine a_imul (pc := 12) F dX12_paysBy_12 ?_
  refine a_aloadn (pc := 13) (j := 0) F dX12_paysBy_13 rfl rfl ?_
  refine a_iconst (pc := 14) F dX12_paysBy_14 kc_0 ?_
  refine a_iloadn (pc := 15) (j := 1) F dX12_paysBy_15 rfl rfl ?_
  obtain ⟨t2, ht2, hf⟩ := bd_some hf
  refine a_callV (pc := 16) (bs' := [bX12 y a0 t2.2]) (kb := 0) (j := 0) F [0] (c_X12_sumOf l D y ek n a0 _ _ _ _ ht2) (cwV 2 F.1.2.2.2.2 (gV q7_133 q7_135 qs_66 q1_11 q7_136) rfl rfl rfl (by decide +kernel) ⟨Nat.le_of_ble_eq_true rfl, Nat.le_of_ble_eq_true rfl⟩) rfl rfl rfl rfl (by decide) rfl rfl rfl rfl rfl rfl (Nat.le_of_ble_eq_true rfl) ⟨Nat.zero_le _, Nat.zero_le _⟩ dX12_paysBy_16 ?_
  refine a_iadd (pc := 19) F dX12_paysBy_19 ?_
  obtain rfl := Option.some.inj hf
  exact hret _ _ _ _ (Nat.zero_le _) (Nat.zero_le _) rfl dX12_paysBy_20

abbrev wX12_luresBy : List Cond := Cond.code yX12_luresBy cX12_luresBy 2 (some .int) :: WALL
def m_X12_luresBy (n : Nat) (v0 : St) (x1 : Int32) : Option (Int32 × St) :=
bd (m_X12_thingsIn n v0 x1) (fun t1 =>
bd (m_X12_worthOf n v0 t1) (fun t2 =>
bd (m_X12_sumOf n v0 1 x1) (fun t3 =>
some ((t2 + t3.1), t3.2))))
set_option maxHeartbeats 4000000 in
set_option maxRecDepth 100000 in
theorem c_X12_luresBy (l : Launch) (D : va_G) (y : Nat → ClassId) (ek : EK) (n : Nat) (a0 : Nat → Nat) (v0 : St) (x1 : Int32) (res : Int32 × St) (hf : m_X12_luresBy n v0 x1 = some res) : CI l yX12_luresBy wX12_luresBy { frames := 9, cells := 0, slots := 0, locals := 205 } D y ek [.ref (a0 0), .int x1] [bX12 y a0 v0] (res.1) [bX12 y a0 res.2] 0 0 := by
  unfold m_X12_luresBy at hf
  refine ci_of (cc := cX12_luresBy) (maxL := 2) (by decide) rfl rfl (Nat.le_of_ble_eq_true rfl) ?_
  intro p e s m below meth c Q A F hret
  refine a_lv (lv' := [(0, .ref (a0 0)), (1, .int x1)]) rfl ?_
  refine a_aloadn (pc := 0) (j := 0) F dX12_luresBy_0 rfl rfl ?_
  refine a_aloadn (pc := 1) (j := 0) F dX12_luresBy_1 rfl rfl ?_
  refine a_iloadn (pc := 2) (j := 1) F dX12_luresBy_2 rfl rfl ?_
  obtain ⟨t1, ht1, hf⟩ := bd_some hf
  refine a_callV (pc := 3) (bs' := [bX12 y a0 v0]) (kb := 0) (j := 0) F [0] (c_X12_thingsIn l D y ek n a0 _ _ _ ht1) (cwV 1 F.1.2.2.2.2 (gV q7_96 q7_98 qs_58 q1_11 q7_99) rfl rfl rfl (by decide +kernel) ⟨Nat.le_of_ble_eq_true rfl, Nat.le_of_ble_eq_true rfl⟩) rfl rfl rfl rfl (by decide) rfl rfl rfl rfl rfl rfl (Nat.le_of_ble_eq_true rfl) ⟨Nat.zero_le _, Nat.zero_le _⟩ dX12_luresBy_3 ?_
  obtain ⟨t2, ht2, hf⟩ := bd_some hf
  refine a_callV (pc := 6) (bs' := [bX12 y a0 v0]) (kb := 0) (j := 0) F [0] (c_X12_worthOf l D y ek n a0 _ _ _ ht2) (cwV 1 F.1.2.2.2.2 (gV q7_171 q7_173 qs_73 q1_11 q7_174) rfl rfl rfl (by decide +kernel) ⟨Nat.le_of_ble_eq_true rfl, Nat.le_of_ble_eq_true rfl⟩) rfl rfl rfl rfl (by decide) rfl rfl rfl rfl rfl rfl (Nat.le_of_ble_eq_true rfl) ⟨Nat.zero_le _, Nat.zero_le _⟩ dX12_luresBy_6 ?_
  refine a_aloadn (pc := 9) (j := 0) F dX12_luresBy_9 rfl rfl ?_
  refine a_iconst (pc := 10) F dX12_luresBy_10 kc_1 ?_
  refine a_iloadn (pc := 11) (j := 1) F dX12_luresBy_11 rfl rfl ?_
  obtain ⟨t3, ht3, hf⟩ := bd_some hf
  refine a_callV (pc := 12) (bs' := [bX12 y a0 t3.2]) (kb := 0) (j := 0) F [0] (c_X12_sumOf l D y ek n a0 _ _ _ _ ht3) (cwV 2 F.1.2.2.2.2 (gV q7_133 q7_135 qs_66 q1_11 q7_136) rfl rfl rfl (by decide +kernel) ⟨Nat.le_of_ble_eq_true rfl, Nat.le_of_ble_eq_true rfl⟩) rfl rfl rfl rfl (by decide) rfl rfl rfl rfl rfl rfl (Nat.le_of_ble_eq_true rfl) ⟨Nat.zero_le _, Nat.zero_le _⟩ dX12_luresBy_12 ?_
  refine a_iadd (pc := 15) F dX12_luresBy_15 ?_
  obtain rfl := Option.some.inj hf
  exact hret _ _ _ _ (Nat.zero_le _) (Nat.zero_le _) rfl dX12_luresBy_16

abbrev wX12_agesBy : List Cond := Cond.code yX12_agesBy cX12_agesBy 2 (some .int) :: WALL
def m_X12_agesBy (n : Nat) (v0 : St) (x1 : Int32) : Option (Int32 × St) :=
bd (m_X12_sumOf n v0 2 (2 * x1)) (fun t1 =>
some ((1 + t1.1), t1.2))
set_option maxHeartbeats 4000000 in
set_option maxRecDepth 100000 in
theorem c_X12_agesBy (l : Launch) (D : va_G) (y : Nat → ClassId) (ek : EK) (n : Nat) (a0 : Nat → Nat) (v0 : St) (x1 : Int32) (res : Int32 × St) (hf : m_X12_agesBy n v0 x1 = some res) : CI l yX12_agesBy wX12_agesBy { frames := 9, cells := 0, slots := 0, locals := 205 } D y ek [.ref (a0 0), .int x1] [bX12 y a0 v0] (res.1) [bX12 y a0 res.2] 0 0 := by
  unfold m_X12_agesBy at hf
  refine ci_of (cc := cX12_agesBy) (maxL := 2) (by decide) rfl rfl (Nat.le_of_ble_eq_true rfl) ?_
  intro p e s m below meth c Q A F hret
  refine a_lv (lv' := [(0, .ref (a0 0)), (1, .int x1)]) rfl ?_
  refine a_iconst (pc := 0) F dX12_agesBy_0 kc_1 ?_
  refine a_aloadn (pc := 1) (j := 0) F dX12_agesBy_1 rfl rfl ?_
  refine a_iconst (pc := 2) F dX12_agesBy_2 kc_2 ?_
  refine a_iconst (pc := 3) F dX12_agesBy_3 kc_2 ?_
  refine a_iloadn (pc := 4) (j := 1) F dX12_agesBy_4 rfl rfl ?_
  refine a_imul (pc := 5) F dX12_agesBy_5 ?_
  obtain ⟨t1, ht1, hf⟩ := bd_some hf
  refine a_callV (pc := 6) (bs' := [bX12 y a0 t1.2]) (kb := 0) (j := 0) F [0] (c_X12_sumOf l D y ek n a0 _ _ _ _ ht1) (cwV 2 F.1.2.2.2.2 (gV q7_133 q7_135 qs_66 q1_11 q7_136) rfl rfl rfl (by decide +kernel) ⟨Nat.le_of_ble_eq_true rfl, Nat.le_of_ble_eq_true rfl⟩) rfl rfl rfl rfl (by decide) rfl rfl rfl rfl rfl rfl (Nat.le_of_ble_eq_true rfl) ⟨Nat.zero_le _, Nat.zero_le _⟩ dX12_agesBy_6 ?_
  refine a_iadd (pc := 9) F dX12_agesBy_9 ?_
  obtain rfl := Option.some.inj hf
  exact hret _ _ _ _ (Nat.zero_le _) (Nat.zero_le _) rfl dX12_agesBy_10

abbrev wX12_lowOf : List Cond := Cond.code yX12_lowOf cX12_lowOf 2 (some .int) :: WALL
def m_X12_lowOf (n : Nat) (v0 : St) (x1 : Int32) : Option (Int32) :=
bd (m_X12_heightOf n v0 x1) (fun t1 =>
some (x_max 0 (5 - t1)))
set_option maxHeartbeats 4000000 in
set_option maxRecDepth 100000 in
theorem c_X12_lowOf (l : Launch) (D : va_G) (y : Nat → ClassId) (ek : EK) (n : Nat) (a0 : Nat → Nat) (v0 : St) (x1 : Int32) (res : Int32) (hf : m_X12_lowOf n v0 x1 = some res) : CI l yX12_lowOf wX12_lowOf { frames := 6, cells := 0, slots := 0, locals := 129 } D y ek [.ref (a0 0), .int x1] [bX12 y a0 v0] (res) [bX12 y a0 v0] 0 0 := by
  unfold m_X12_lowOf at hf
  refine ci_of (cc := cX12_lowOf) (maxL := 2) (by decide) rfl rfl (Nat.le_of_ble_eq_true rfl) ?_
  intro p e s m below meth c Q A F hret
  refine a_lv (lv' := [(0, .ref (a0 0)), (1, .int x1)]) rfl ?_
  refine a_iconst (pc := 0) F dX12_lowOf_0 kc_0 ?_
  refine a_iconst (pc := 1) F dX12_lowOf_1 kc_5 ?_
  refine a_aloadn (pc := 2) (j := 0) F dX12_lowOf_2 rfl rfl ?_
  refine a_iloadn (pc := 3) (j := 1) F dX12_lowOf_3 rfl rfl ?_
  obtain ⟨t1, ht1, hf⟩ := bd_some hf
  refine a_callV (pc := 4) (bs' := [bX12 y a0 v0]) (kb := 0) (j := 0) F [0] (c_X12_heightOf l D y ek n a0 _ _ _ ht1) (cwV 1 F.1.2.2.2.2 (gV q7_145 q7_147 qs_69 q1_11 q7_148) rfl rfl rfl (by decide +kernel) ⟨Nat.le_of_ble_eq_true rfl, Nat.le_of_ble_eq_true rfl⟩) rfl rfl rfl rfl (by decide) rfl rfl rfl rfl rfl rfl (Nat.le_of_ble_eq_true rfl) ⟨Nat.zero_le _, Nat.zero_le _⟩ dX12_lowOf_4 ?_
  refine a_isub (pc := 7) F dX12_lowOf_7 ?_
  refine a_mmax (pc := 8) F (tl q7_120) (tl q2_173) (tl q1_22) (tl q_math_max) (Nat.le_of_ble_eq_true rfl) (Nat.le_of_ble_eq_true rfl) (Nat.zero_le _) (Nat.zero_le _) dX12_lowOf_8 ?_
  obtain rfl := Option.some.inj hf
  exact hret _ _ _ _ (Nat.zero_le _) (Nat.zero_le _) rfl dX12_lowOf_11

abbrev wX12_shareOf : List Cond := Cond.code yX12_shareOf cX12_shareOf 4 (some .int) :: WALL
def m_X12_shareOf (n : Nat) (v0 : St) (x1 : Int32) : Option (Int32) :=
bd (lp (fun (rc4 : Int32 × Int32 → Option (Int32)) (x4l : Int32 × Int32) =>
bd (m_X12_houses n v0) (fun t5 =>
(if t5 ≤ x4l.2 then
some x4l.1
else
bd (m_X12_lowOf n v0 x4l.2) (fun t6 =>
nm (x4l.1 + t6) (fun x2_7 =>
rc4 (x2_7, (x4l.2 + 1))))))) n (0, 0)) (fun (t1 : Int32) =>
(if t1 = 0 then
some 0
else
bd (m_X12_lowOf n v0 x1) (fun t2 =>
(if ¬ t1 = 0 then some ((100 * t2) / t1) else none))))
set_option maxHeartbeats 4000000 in
set_option maxRecDepth 100000 in
theorem c_X12_shareOf (l : Launch) (D : va_G) (y : Nat → ClassId) (ek : EK) (n : Nat) (a0 : Nat → Nat) (v0 : St) (x1 : Int32) (res : Int32) (hf : m_X12_shareOf n v0 x1 = some res) : CI l yX12_shareOf wX12_shareOf { frames := 7, cells := 0, slots := 0, locals := 150 } D y ek [.ref (a0 0), .int x1] [bX12 y a0 v0] (res) [bX12 y a0 v0] 0 0 := by
  unfold m_X12_shareOf at hf
  refine ci_of (cc := cX12_shareOf) (maxL := 4) (by decide) rfl rfl (Nat.le_of_ble_eq_true rfl) ?_
  intro p e s m below meth c Q A F hret
  refine a_lv (lv' := [(0, .ref (a0 0)), (1, .int x1)]) rfl ?_
  refine a_iconst (pc := 0) F dX12_shareOf_0 kc_0 ?_
  refine a_istoren (pc := 1) (lv' := [(0, .ref (a0 0)), (1, .int x1), (2, .int 0)]) F [1, 2, 0] dX12_shareOf_1 rfl (by decide) rfl ?_
  refine a_iconst (pc := 2) F dX12_shareOf_2 kc_0 ?_
  refine a_istoren (pc := 3) (lv' := [(0, .ref (a0 0)), (1, .int x1), (2, .int 0), (3, .int 0)]) F [1, 2, 3, 0] dX12_shareOf_3 rfl (by decide) rfl ?_
  refine a_join 26 (fun (t1 : Int32) => [(0, .ref (a0 0)), (1, .int x1), (2, .int t1)]) (fun (t1 : Int32) => []) (fun (t1 : Int32) => [bX12 y a0 v0]) hf (fun t1 hf => ?_) (fun t1 hf J1 => ?_)
  · try dsimp only at hf ⊢
    refine a_iloadn (pc := 26) (j := 2) F dX12_shareOf_26 rfl rfl ?_
    refine a_if_ne (pc := 27) (tgt := 34) F dX12_shareOf_27 (by decide) (fun h => ?_) (fun h => ?_)
    · replace hf := it_neg h hf
      refine a_bipush (pc := 34) F dX12_shareOf_34 kb_100 ?_
      refine a_aloadn (pc := 36) (j := 0) F dX12_shareOf_36 rfl rfl ?_
      refine a_iloadn (pc := 37) (j := 1) F dX12_shareOf_37 rfl rfl ?_
      obtain ⟨t2, ht2, hf⟩ := bd_some hf
      refine a_callV (pc := 38) (bs' := [bX12 y a0 v0]) (kb := 0) (j := 0) F [0] (c_X12_lowOf l D y ek n a0 _ _ _ ht2) (cwV 1 F.1.2.2.2.2 (gV q7_179 q7_181 qs_75 q1_11 q7_182) rfl rfl rfl (by decide +kernel) ⟨Nat.le_of_ble_eq_true rfl, Nat.le_of_ble_eq_true rfl⟩) rfl rfl rfl rfl (by decide) rfl rfl rfl rfl rfl rfl (Nat.le_of_ble_eq_true rfl) ⟨Nat.zero_le _, Nat.zero_le _⟩ dX12_shareOf_38 ?_
      refine a_imul (pc := 41) F dX12_shareOf_41 ?_
      refine a_iloadn (pc := 42) (j := 2) F dX12_shareOf_42 rfl rfl ?_
      obtain ⟨h3, hf⟩ := gd_some hf
      refine a_idiv (pc := 43) F dX12_shareOf_43 h3 ?_
      obtain rfl := Option.some.inj hf
      exact hret _ _ _ _ (Nat.zero_le _) (Nat.zero_le _) rfl dX12_shareOf_44
    · replace hf := it_pos h hf
      refine a_iconst (pc := 30) F dX12_shareOf_30 kc_0 ?_
      refine a_goto (pc := 31) (tgt := 44) F dX12_shareOf_31 (by decide) ?_
      obtain rfl := Option.some.inj hf
      exact hret _ _ _ _ (Nat.zero_le _) (Nat.zero_le _) rfl dX12_shareOf_44
  · refine a_loop 4 (fun (x4l : Int32 × Int32) => [(0, .ref (a0 0)), (1, .int x1), (2, .int x4l.1), (3, .int x4l.2)]) (fun (x4l : Int32 × Int32) => [bX12 y a0 v0]) (fun rc4 x4l ih4 hf => ?_) hf rfl rfl
    try dsimp only at hf ⊢
    refine a_iloadn (pc := 4) (j := 3) F dX12_shareOf_4 rfl rfl ?_
    refine a_aloadn (pc := 5) (j := 0) F dX12_shareOf_5 rfl rfl ?_
    obtain ⟨t5, ht5, hf⟩ := bd_some hf
    refine a_callV (pc := 6) (bs' := [bX12 y a0 v0]) (kb := 0) (j := 0) F [0] (c_X12_houses l D y ek n a0 _ _ ht5) (cwV 0 F.1.2.2.2.2 (gV q6_220 q6_222 qs_38 q1_11 q6_223) rfl rfl rfl (by decide +kernel) ⟨Nat.le_of_ble_eq_true rfl, Nat.le_of_ble_eq_true rfl⟩) rfl rfl rfl rfl (by decide) rfl rfl rfl rfl rfl rfl (Nat.le_of_ble_eq_true rfl) ⟨Nat.zero_le _, Nat.zero_le _⟩ dX12_shareOf_6 ?_
    refine a_icmp_ge (pc := 9) (tgt := 26) F dX12_shareOf_9 (by decide) (fun h => ?_) (fun h => ?_)
    · replace hf := it_pos h hf
      refine a_sub [0, 1, 2] rfl ?_
      obtain rfl := Option.some.inj hf
      exact J1
    · replace hf := it_neg h hf
      refine a_iloadn (pc := 12) (j := 2) F dX12_shareOf_12 rfl rfl ?_
      refine a_aloadn (pc := 13) (j := 0) F dX12_shareOf_13 rfl rfl ?_
      refine a_iloadn (pc := 14) (j := 3) F dX12_shareOf_14 rfl rfl ?_
      obtain ⟨t6, ht6, hf⟩ := bd_some hf
      refine a_callV (pc := 15) (bs' := [bX12 y a0 v0]) (kb := 0) (j := 0) F [0] (c_X12_lowOf l D y ek n a0 _ _ _ ht6) (cwV 1 F.1.2.2.2.2 (gV q7_179 q7_181 qs_75 q1_11 q7_182) rfl rfl rfl (by decide +kernel) ⟨Nat.le_of_ble_eq_true rfl, Nat.le_of_ble_eq_true rfl⟩) rfl rfl rfl rfl (by decide) rfl rfl rfl rfl rfl rfl (Nat.le_of_ble_eq_true rfl) ⟨Nat.zero_le _, Nat.zero_le _⟩ dX12_shareOf_15 ?_
      refine a_iadd (pc := 18) F dX12_shareOf_18 ?_
      obtain ⟨x2_7, ex2_7, hf⟩ := nm_some hf
      refine a_nmi ex2_7 ?_
      refine a_istoren (pc := 19) (lv' := [(0, .ref (a0 0)), (1, .int x1), (2, .int x2_7), (3, .int x4l.2)]) F [1, 2, 0, 3] dX12_shareOf_19 rfl (by decide) rfl ?_
      refine a_iinc (pc := 20) (j := 3) (v := (x4l.2 + 1)) (lv' := [(0, .ref (a0 0)), (1, .int x1), (2, .int x2_7), (3, .int (x4l.2 + 1))]) F [1, 2, 3, 0] dX12_shareOf_20 rfl ki_1 (by decide) rfl ?_
      refine a_goto (pc := 23) (tgt := 4) F dX12_shareOf_23 (by decide) ?_
      exact ih4 (x2_7, (x4l.2 + 1)) hf

abbrev wX12_corkOf : List Cond := Cond.code yX12_corkOf cX12_corkOf 5 (some .int) :: WALL
def m_X12_corkOf (n : Nat) (v0 : St) (x1 : Int32) : Option (Int32) :=
bd (m_X12_plankOf n x1) (fun t1 =>
bd ((if (x_rem x1 2) = 0 then
some (x1 + 1)
else
some (x1 - 1))) (fun (t2 : Int32) =>
bd (m_X12_loadOf n v0 t2) (fun t3 =>
nm (t3 - (v0 1 5)) (fun x3_4 =>
bd (m_X12_isPropped n v0 t1) (fun t5 =>
bd ((if t5 = 0 then
bd ((if (x_rem x1 2) = 0 then
some x3_4
else
some (-x3_4))) (fun (t9 : Int32) =>
bd (m_X12_tiltBy n v0 t9) (fun t10 =>
some t10))
else
some 0)) (fun (t6 : Int32) =>
bd (m_X12_isBroken n v0 t1) (fun t7 =>
(if t7 = 0 then
bd (m_X12_heightBy n x1 t6) (fun t8 =>
some t8)
else
some 0))))))))
set_option maxHeartbeats 4000000 in
set_option maxRecDepth 100000 in
theorem c_X12_corkOf (l : Launch) (D : va_G) (y : Nat → ClassId) (ek : EK) (n : Nat) (a0 : Nat → Nat) (v0 : St) (x1 : Int32) (res : Int32) (hf : m_X12_corkOf n v0 x1 = some res) : CI l yX12_corkOf wX12_corkOf { frames := 4, cells := 0, slots := 0, locals := 87 } D y ek [.ref (a0 0), .int x1] [bX12 y a0 v0] (res) [bX12 y a0 v0] 0 0 := by
  unfold m_X12_corkOf at hf
  refine ci_of (cc := cX12_corkOf) (maxL := 5) (by decide) rfl rfl (Nat.le_of_ble_eq_true rfl) ?_
  intro p e s m below meth c Q A F hret
  refine a_lv (lv' := [(0, .ref (a0 0)), (1, .int x1)]) rfl ?_
  refine a_iloadn (pc := 0) (j := 1) F dX12_corkOf_0 rfl rfl ?_
  obtain ⟨t1, ht1, hf⟩ := bd_some hf
  refine a_callS (pc := 1) (bs' := [bX12 y a0 v0]) F [] (c_X12_plankOf l D y ek n  _ _ ht1) (va_cwS 1 F.1.2.2.2.2 (gS q7_149 q7_150 q1_11 q7_151) rfl rfl rfl (by decide +kernel) ⟨Nat.le_of_ble_eq_true rfl, Nat.le_of_ble_eq_true rfl⟩) (by decide) rfl rfl rfl rfl rfl rfl (Nat.le_of_ble_eq_true rfl) ⟨Nat.zero_le _, Nat.zero_le _⟩ dX12_corkOf_1 ?_
  refine a_istoren (pc := 4) (lv' := [(0, .ref (a0 0)), (1, .int x1), (2, .int t1)]) F [1, 2, 0] dX12_corkOf_4 rfl (by decide) rfl ?_
  refine a_aloadn (pc := 5) (j := 0) F dX12_corkOf_5 rfl rfl ?_
  refine a_iloadn (pc := 6) (j := 1) F dX12_corkOf_6 rfl rfl ?_
  refine a_iconst (pc := 7) F dX12_corkOf_7 kc_2 ?_
  refine a_irem (pc := 8) F dX12_corkOf_8 (by decide) ?_
  refine a_join 21 (fun (t2 : Int32) => [(0, .ref (a0 0)), (1, .int x1), (2, .int t1)]) (fun (t2 : Int32) => [.int t2, .ref (a0 0)]) (fun (t2 : Int32) => [bX12 y a0 v0]) hf (fun t2 hf => ?_) (fun t2 hf J2 => ?_)
  · try dsimp only at hf ⊢
    obtain ⟨t3, ht3, hf⟩ := bd_some hf
    refine a_callV (pc := 21) (bs' := [bX12 y a0 v0]) (kb := 0) (j := 0) F [0] (c_X12_loadOf l D y ek n a0 _ _ _ ht3) (cwV 1 F.1.2.2.2.2 (gV q7_92 q7_94 qs_57 q1_11 q7_95) rfl rfl rfl (by decide +kernel) ⟨Nat.le_of_ble_eq_true rfl, Nat.le_of_ble_eq_true rfl⟩) rfl rfl rfl rfl (by decide) rfl rfl rfl rfl rfl rfl (Nat.le_of_ble_eq_true rfl) ⟨Nat.zero_le _, Nat.zero_le _⟩ dX12_corkOf_21 ?_
    refine a_aloadn (pc := 24) (j := 0) F dX12_corkOf_24 rfl rfl ?_
    refine a_get (pc := 25) (kb := 0) (j := 0) (f := 1) F iW_X12 rfl rfl rfl (by decide) (tl q6_69) (fun _ h => h) rfl dX12_corkOf_25 ?_
    refine a_iconst (pc := 28) F dX12_corkOf_28 kc_5 ?_
    refine a_ialdc (pc := 29) (kb := 0) (j := 1) (k := 5) F rfl rfl (by decide) (by decide) dX12_corkOf_29 ?_
    refine a_isub (pc := 30) F dX12_corkOf_30 ?_
    obtain ⟨x3_4, ex3_4, hf⟩ := nm_some hf
    refine a_nmi ex3_4 ?_
    refine a_istoren (pc := 31) (lv' := [(0, .ref (a0 0)), (1, .int x1), (2, .int t1), (3, .int x3_4)]) F [1, 2, 3, 0] dX12_corkOf_31 rfl (by decide) rfl ?_
    refine a_aloadn (pc := 32) (j := 0) F dX12_corkOf_32 rfl rfl ?_
    refine a_iloadn (pc := 33) (j := 2) F dX12_corkOf_33 rfl rfl ?_
    obtain ⟨t5, ht5, hf⟩ := bd_some hf
    refine a_callV (pc := 34) (bs' := [bX12 y a0 v0]) (kb := 0) (j := 0) F [0] (c_X12_isPropped l D y ek n a0 _ _ _ ht5) (cwV 1 F.1.2.2.2.2 (gV q7_84 q7_86 qs_55 q1_11 q7_87) rfl rfl rfl (by decide +kernel) ⟨Nat.le_of_ble_eq_true rfl, Nat.le_of_ble_eq_true rfl⟩) rfl rfl rfl rfl (by decide) rfl rfl rfl rfl rfl rfl (Nat.le_of_ble_eq_true rfl) ⟨Nat.zero_le _, Nat.zero_le _⟩ dX12_corkOf_34 ?_
    refine a_join 60 (fun (t6 : Int32) => [(0, .ref (a0 0)), (1, .int x1), (2, .int t1)]) (fun (t6 : Int32) => [.int t6]) (fun (t6 : Int32) => [bX12 y a0 v0]) hf (fun t6 hf => ?_) (fun t6 hf J6 => ?_)
    · try dsimp only at hf ⊢
      refine a_istore (pc := 60) (lv' := [(0, .ref (a0 0)), (1, .int x1), (2, .int t1), (4, .int t6)]) F [1, 2, 3, 0] dX12_corkOf_60 (by decide) rfl ?_
      refine a_aloadn (pc := 62) (j := 0) F dX12_corkOf_62 rfl rfl ?_
      refine a_iloadn (pc := 63) (j := 2) F dX12_corkOf_63 rfl rfl ?_
      obtain ⟨t7, ht7, hf⟩ := bd_some hf
      refine a_callV (pc := 64) (bs' := [bX12 y a0 v0]) (kb := 0) (j := 0) F [0] (c_X12_isBroken l D y ek n a0 _ _ _ ht7) (cwV 1 F.1.2.2.2.2 (gV q7_125 q7_127 qs_64 q1_11 q7_128) rfl rfl rfl (by decide +kernel) ⟨Nat.le_of_ble_eq_true rfl, Nat.le_of_ble_eq_true rfl⟩) rfl rfl rfl rfl (by decide) rfl rfl rfl rfl rfl rfl (Nat.le_of_ble_eq_true rfl) ⟨Nat.zero_le _, Nat.zero_le _⟩ dX12_corkOf_64 ?_
      refine a_if_eq (pc := 67) (tgt := 74) F dX12_corkOf_67 (by decide) (fun h => ?_) (fun h => ?_)
      · replace hf := it_pos h hf
        refine a_iloadn (pc := 74) (j := 1) F dX12_corkOf_74 rfl rfl ?_
        refine a_iload (pc := 75) (j := 3) F dX12_corkOf_75 rfl ?_
        obtain ⟨t8, ht8, hf⟩ := bd_some hf
        refine a_callS (pc := 77) (bs' := [bX12 y a0 v0]) F [] (c_X12_heightBy l D y ek n  _ _ _ ht8) (va_cwS 2 F.1.2.2.2.2 (gS q7_152 q7_153 q1_11 q7_154) rfl rfl rfl (by decide +kernel) ⟨Nat.le_of_ble_eq_true rfl, Nat.le_of_ble_eq_true rfl⟩) (by decide) rfl rfl rfl rfl rfl rfl (Nat.le_of_ble_eq_true rfl) ⟨Nat.zero_le _, Nat.zero_le _⟩ dX12_corkOf_77 ?_
        obtain rfl := Option.some.inj hf
        exact hret _ _ _ _ (Nat.zero_le _) (Nat.zero_le _) rfl dX12_corkOf_80
      · replace hf := it_neg h hf
        refine a_iconst (pc := 70) F dX12_corkOf_70 kc_0 ?_
        refine a_goto (pc := 71) (tgt := 80) F dX12_corkOf_71 (by decide) ?_
        obtain rfl := Option.some.inj hf
        exact hret _ _ _ _ (Nat.zero_le _) (Nat.zero_le _) rfl dX12_corkOf_80
    · refine a_if_eq (pc := 37) (tgt := 44) F dX12_corkOf_37 (by decide) (fun h => ?_) (fun h => ?_)
      · replace hf := it_pos h hf
        refine a_aloadn (pc := 44) (j := 0) F dX12_corkOf_44 rfl rfl ?_
        refine a_iloadn (pc := 45) (j := 1) F dX12_corkOf_45 rfl rfl ?_
        refine a_iconst (pc := 46) F dX12_corkOf_46 kc_2 ?_
        refine a_irem (pc := 47) F dX12_corkOf_47 (by decide) ?_
        refine a_join 57 (fun (t9 : Int32) => [(0, .ref (a0 0)), (1, .int x1), (2, .int t1)]) (fun (t9 : Int32) => [.int t9, .ref (a0 0)]) (fun (t9 : Int32) => [bX12 y a0 v0]) hf (fun t9 hf => ?_) (fun t9 hf J9 => ?_)
        · try dsimp only at hf ⊢
          obtain ⟨t10, ht10, hf⟩ := bd_some hf
          refine a_callV (pc := 57) (bs' := [bX12 y a0 v0]) (kb := 0) (j := 0) F [0] (c_X12_tiltBy l D y ek n a0 _ _ _ ht10) (cwV 1 F.1.2.2.2.2 (gV q7_115 q7_117 qs_62 q1_11 q7_118) rfl rfl rfl (by decide +kernel) ⟨Nat.le_of_ble_eq_true rfl, Nat.le_of_ble_eq_true rfl⟩) rfl rfl rfl rfl (by decide) rfl rfl rfl rfl rfl rfl (Nat.le_of_ble_eq_true rfl) ⟨Nat.zero_le _, Nat.zero_le _⟩ dX12_corkOf_57 ?_
          obtain rfl := Option.some.inj hf
          exact J6
        · refine a_if_ne (pc := 48) (tgt := 55) F dX12_corkOf_48 (by decide) (fun h => ?_) (fun h => ?_)
          · replace hf := it_neg h hf
            refine a_iloadn (pc := 55) (j := 3) F dX12_corkOf_55 rfl rfl ?_
            refine a_ineg (pc := 56) F dX12_corkOf_56 ?_
            refine a_sub [0, 1, 2] rfl ?_
            obtain rfl := Option.some.inj hf
            exact J9
          · replace hf := it_pos h hf
            refine a_iloadn (pc := 51) (j := 3) F dX12_corkOf_51 rfl rfl ?_
            refine a_goto (pc := 52) (tgt := 57) F dX12_corkOf_52 (by decide) ?_
            refine a_sub [0, 1, 2] rfl ?_
            obtain rfl := Option.some.inj hf
            exact J9
      · replace hf := it_neg h hf
        refine a_iconst (pc := 40) F dX12_corkOf_40 kc_0 ?_
        refine a_goto (pc := 41) (tgt := 60) F dX12_corkOf_41 (by decide) ?_
        refine a_sub [0, 1, 2] rfl ?_
        obtain rfl := Option.some.inj hf
        exact J6
  · refine a_if_ne (pc := 9) (tgt := 18) F dX12_corkOf_9 (by decide) (fun h => ?_) (fun h => ?_)
    · replace hf := it_neg h hf
      refine a_iloadn (pc := 18) (j := 1) F dX12_corkOf_18 rfl rfl ?_
      refine a_iconst (pc := 19) F dX12_corkOf_19 kc_1 ?_
      refine a_isub (pc := 20) F dX12_corkOf_20 ?_
      obtain rfl := Option.some.inj hf
      exact J2
    · replace hf := it_pos h hf
      refine a_iloadn (pc := 12) (j := 1) F dX12_corkOf_12 rfl rfl ?_
      refine a_iconst (pc := 13) F dX12_corkOf_13 kc_1 ?_
      refine a_iadd (pc := 14) F dX12_corkOf_14 ?_
      refine a_goto (pc := 15) (tgt := 21) F dX12_corkOf_15 (by decide) ?_
      obtain rfl := Option.some.inj hf
      exact J2

abbrev wX12_plank : List Cond := Cond.code yX12_plank cX12_plank 3 (some .int) :: WALL
def m_X12_plank (n : Nat) (v0 : St) (x1 : Int32) (x2 : Int32) : Option (Int32 × St) :=
nm (su v0 0 0 0) (fun u1 =>
bd (m_X12_noPlank n u1 x1) (fun t2 =>
bd (m_X12_throwsIf n u1 t2 1) (fun t3 =>
(if t3.1 = 0 then
bd (m_X12_in n x2 0 6) (fun t4 =>
bd ((if t4 = 0 then
some 1
else
some 0)) (fun (t5 : Int32) =>
bd (m_X12_throwsIf n t3.2 t5 2) (fun t6 =>
(if t6.1 = 0 then
(if x2 = 4 then
bd (m_X12_tiltOf n t6.2 x1) (fun t7 =>
some ((t7 + 5), t6.2))
else
(if x2 = 5 then
bd (m_X12_isLevel n t6.2 x1) (fun t8 =>
(if t8 = 0 then
some (0, t6.2)
else
some (1, t6.2)))
else
(if x2 = 6 then
bd (m_X12_agesBy n t6.2 x1) (fun t9 =>
some (t9.1, t9.2))
else
bd (m_X12_ofPlank n t6.2 x1 x2) (fun t10 =>
some (t10, t6.2)))))
else
some (0, t6.2)))))
else
some (0, t3.2)))))
set_option maxHeartbeats 4000000 in
set_option maxRecDepth 100000 in
theorem c_X12_plank (l : Launch) (D : va_G) (y : Nat → ClassId) (ek : EK) (n : Nat) (a0 : Nat → Nat) (v0 : St) (x1 : Int32) (x2 : Int32) (res : Int32 × St) (hf : m_X12_plank n v0 x1 x2 = some res) : CI l yX12_plank wX12_plank { frames := 10, cells := 0, slots := 0, locals := 226 } D y ek [.ref (a0 0), .int x1, .int x2] [bX12 y a0 v0] (res.1) [bX12 y a0 res.2] 0 0 := by
  unfold m_X12_plank at hf
  refine ci_of (cc := cX12_plank) (maxL := 3) (by decide) rfl rfl (Nat.le_of_ble_eq_true rfl) ?_
  intro p e s m below meth c Q A F hret
  refine a_lv (lv' := [(0, .ref (a0 0)), (1, .int x1), (2, .int x2)]) rfl ?_
  refine a_aloadn (pc := 0) (j := 0) F dX12_plank_0 rfl rfl ?_
  refine a_iconst (pc := 1) F dX12_plank_1 kc_0 ?_
  obtain ⟨u1, eu1, hf⟩ := nm_some hf
  refine a_put (pc := 2) (kb := 0) (j := 0) (f := 0) (ty := .int) (bs' := [bX12 y a0 u1]) F iW_X12 rfl rfl rfl (by decide) (tl q6_68) (fun _ h => h) tyX12 tyX12_ok nmX12 rfl rfl rfl rfl (Nat.le_of_ble_eq_true rfl) (by rw [eu1]; rfl) dX12_plank_2 ?_
  refine a_aloadn (pc := 5) (j := 0) F dX12_plank_5 rfl rfl ?_
  refine a_aloadn (pc := 6) (j := 0) F dX12_plank_6 rfl rfl ?_
  refine a_iloadn (pc := 7) (j := 1) F dX12_plank_7 rfl rfl ?_
  obtain ⟨t2, ht2, hf⟩ := bd_some hf
  refine a_callV (pc := 8) (bs' := [bX12 y a0 u1]) (kb := 0) (j := 0) F [0] (c_X12_noPlank l D y ek n a0 _ _ _ ht2) (cwV 1 F.1.2.2.2.2 (gV q7_73 q7_75 qs_53 q1_11 q7_76) rfl rfl rfl (by decide +kernel) ⟨Nat.le_of_ble_eq_true rfl, Nat.le_of_ble_eq_true rfl⟩) rfl rfl rfl rfl (by decide) rfl rfl rfl rfl rfl rfl (Nat.le_of_ble_eq_true rfl) ⟨Nat.zero_le _, Nat.zero_le _⟩ dX12_plank_8 ?_
  refine a_iconst (pc := 11) F dX12_plank_11 kc_1 ?_
  obtain ⟨t3, ht3, hf⟩ := bd_some hf
  refine a_callV (pc := 12) (bs' := [bX12 y a0 t3.2]) (kb := 0) (j := 0) F [0] (c_X12_throwsIf l D y ek n a0 _ _ _ _ ht3) (cwV 2 F.1.2.2.2.2 (gV q7_61 q7_63 qs_52 q1_11 q7_64) rfl rfl rfl (by decide +kernel) ⟨Nat.le_of_ble_eq_true rfl, Nat.le_of_ble_eq_true rfl⟩) rfl rfl rfl rfl (by decide) rfl rfl rfl rfl rfl rfl (Nat.le_of_ble_eq_true rfl) ⟨Nat.zero_le _, Nat.zero_le _⟩ dX12_plank_12 ?_
  refine a_if_ne (pc := 15) (tgt := 41) F dX12_plank_15 (by decide) (fun h => ?_) (fun h => ?_)
  · replace hf := it_neg h hf
    refine a_iconst (pc := 41) F dX12_plank_41 kc_0 ?_
    obtain rfl := Option.some.inj hf
    exact hret _ _ _ _ (Nat.zero_le _) (Nat.zero_le _) rfl dX12_plank_42
  · replace hf := it_pos h hf
    refine a_aloadn (pc := 18) (j := 0) F dX12_plank_18 rfl rfl ?_
    refine a_iloadn (pc := 19) (j := 2) F dX12_plank_19 rfl rfl ?_
    refine a_iconst (pc := 20) F dX12_plank_20 kc_0 ?_
    refine a_bipush (pc := 21) F dX12_plank_21 kb_6 ?_
    obtain ⟨t4, ht4, hf⟩ := bd_some hf
    refine a_callS (pc := 23) (bs' := [bX12 y a0 t3.2]) F [] (c_X12_in l D y ek n  _ _ _ _ ht4) (va_cwS 3 F.1.2.2.2.2 (gS q7_77 q7_78 q1_11 q7_79) rfl rfl rfl (by decide +kernel) ⟨Nat.le_of_ble_eq_true rfl, Nat.le_of_ble_eq_true rfl⟩) (by decide) rfl rfl rfl rfl rfl rfl (Nat.le_of_ble_eq_true rfl) ⟨Nat.zero_le _, Nat.zero_le _⟩ dX12_plank_23 ?_
    refine a_join 34 (fun (t5 : Int32) => [(0, .ref (a0 0)), (1, .int x1), (2, .int x2)]) (fun (t5 : Int32) => [.int t5, .ref (a0 0)]) (fun (t5 : Int32) => [bX12 y a0 t3.2]) hf (fun t5 hf => ?_) (fun t5 hf J5 => ?_)
    · try dsimp only at hf ⊢
      refine a_iconst (pc := 34) F dX12_plank_34 kc_2 ?_
      obtain ⟨t6, ht6, hf⟩ := bd_some hf
      refine a_callV (pc := 35) (bs' := [bX12 y a0 t6.2]) (kb := 0) (j := 0) F [0] (c_X12_throwsIf l D y ek n a0 _ _ _ _ ht6) (cwV 2 F.1.2.2.2.2 (gV q7_61 q7_63 qs_52 q1_11 q7_64) rfl rfl rfl (by decide +kernel) ⟨Nat.le_of_ble_eq_true rfl, Nat.le_of_ble_eq_true rfl⟩) rfl rfl rfl rfl (by decide) rfl rfl rfl rfl rfl rfl (Nat.le_of_ble_eq_true rfl) ⟨Nat.zero_le _, Nat.zero_le _⟩ dX12_plank_35 ?_
      refine a_if_eq (pc := 38) (tgt := 43) F dX12_plank_38 (by decide) (fun h => ?_) (fun h => ?_)
      · replace hf := it_pos h hf
        refine a_iloadn (pc := 43) (j := 2) F dX12_plank_43 rfl rfl ?_
        by_cases h4 : x2 = 4
        · replace hf := it_pos h4 hf
          refine a_tin (pc := 44) (tgt := 72) (k := 4) F dX12_plank_44 (by rw [h4]; decide) (by decide) (by decide) rfl (by decide) ?_
          refine a_aloadn (pc := 72) (j := 0) F dX12_plank_72 rfl rfl ?_
          refine a_iloadn (pc := 73) (j := 1) F dX12_plank_73 rfl rfl ?_
          obtain ⟨t7, ht7, hf⟩ := bd_some hf
          refine a_callV (pc := 74) (bs' := [bX12 y a0 t6.2]) (kb := 0) (j := 0) F [0] (c_X12_tiltOf l D y ek n a0 _ _ _ ht7) (cwV 1 F.1.2.2.2.2 (gV q7_80 q7_82 qs_54 q1_11 q7_83) rfl rfl rfl (by decide +kernel) ⟨Nat.le_of_ble_eq_true rfl, Nat.le_of_ble_eq_true rfl⟩) rfl rfl rfl rfl (by decide) rfl rfl rfl rfl rfl rfl (Nat.le_of_ble_eq_true rfl) ⟨Nat.zero_le _, Nat.zero_le _⟩ dX12_plank_74 ?_
          refine a_iconst (pc := 77) F dX12_plank_77 kc_5 ?_
          refine a_iadd (pc := 78) F dX12_plank_78 ?_
          obtain rfl := Option.some.inj hf
          exact hret _ _ _ _ (Nat.zero_le _) (Nat.zero_le _) rfl dX12_plank_79
        replace hf := it_neg h4 hf
        by_cases h5 : x2 = 5
        · replace hf := it_pos h5 hf
          refine a_tin (pc := 44) (tgt := 80) (k := 5) F dX12_plank_44 (by rw [h5]; decide) (by decide) (by decide) rfl (by decide) ?_
          refine a_aloadn (pc := 80) (j := 0) F dX12_plank_80 rfl rfl ?_
          refine a_iloadn (pc := 81) (j := 1) F dX12_plank_81 rfl rfl ?_
          obtain ⟨t8, ht8, hf⟩ := bd_some hf
          refine a_callV (pc := 82) (bs' := [bX12 y a0 t6.2]) (kb := 0) (j := 0) F [0] (c_X12_isLevel l D y ek n a0 _ _ _ ht8) (cwV 1 F.1.2.2.2.2 (gV q7_121 q7_123 qs_63 q1_11 q7_124) rfl rfl rfl (by decide +kernel) ⟨Nat.le_of_ble_eq_true rfl, Nat.le_of_ble_eq_true rfl⟩) rfl rfl rfl rfl (by decide) rfl rfl rfl rfl rfl rfl (Nat.le_of_ble_eq_true rfl) ⟨Nat.zero_le _, Nat.zero_le _⟩ dX12_plank_82 ?_
          refine a_if_eq (pc := 85) (tgt := 92) F dX12_plank_85 (by decide) (fun h => ?_) (fun h => ?_)
          · replace hf := it_pos h hf
            refine a_iconst (pc := 92) F dX12_plank_92 kc_0 ?_
            obtain rfl := Option.some.inj hf
            exact hret _ _ _ _ (Nat.zero_le _) (Nat.zero_le _) rfl dX12_plank_93
          · replace hf := it_neg h hf
            refine a_iconst (pc := 88) F dX12_plank_88 kc_1 ?_
            refine a_goto (pc := 89) (tgt := 93) F dX12_plank_89 (by decide) ?_
            obtain rfl := Option.some.inj hf
            exact hret _ _ _ _ (Nat.zero_le _) (Nat.zero_le _) rfl dX12_plank_93
        replace hf := it_neg h5 hf
        by_cases h6 : x2 = 6
        · replace hf := it_pos h6 hf
          refine a_tin (pc := 44) (tgt := 94) (k := 6) F dX12_plank_44 (by rw [h6]; decide) (by decide) (by decide) rfl (by decide) ?_
          refine a_aloadn (pc := 94) (j := 0) F dX12_plank_94 rfl rfl ?_
          refine a_iloadn (pc := 95) (j := 1) F dX12_plank_95 rfl rfl ?_
          obtain ⟨t9, ht9, hf⟩ := bd_some hf
          refine a_callV (pc := 96) (bs' := [bX12 y a0 t9.2]) (kb := 0) (j := 0) F [0] (c_X12_agesBy l D y ek n a0 _ _ _ ht9) (cwV 1 F.1.2.2.2.2 (gV q7_129 q7_131 qs_65 q1_11 q7_132) rfl rfl rfl (by decide +kernel) ⟨Nat.le_of_ble_eq_true rfl, Nat.le_of_ble_eq_true rfl⟩) rfl rfl rfl rfl (by decide) rfl rfl rfl rfl rfl rfl (Nat.le_of_ble_eq_true rfl) ⟨Nat.zero_le _, Nat.zero_le _⟩ dX12_plank_96 ?_
          obtain rfl := Option.some.inj hf
          exact hret _ _ _ _ (Nat.zero_le _) (Nat.zero_le _) rfl dX12_plank_99
        replace hf := it_neg h6 hf
        refine a_tout (pc := 44) (tgt := 100) F dX12_plank_44 (by have := sw_ne 4 h4 (by decide); have := sw_ne 5 h5 (by decide); have := sw_ne 6 h6 (by decide); omega) (by decide) ?_
        refine a_aloadn (pc := 100) (j := 0) F dX12_plank_100 rfl rfl ?_
        refine a_iloadn (pc := 101) (j := 1) F dX12_plank_101 rfl rfl ?_
        refine a_iloadn (pc := 102) (j := 2) F dX12_plank_102 rfl rfl ?_
        obtain ⟨t10, ht10, hf⟩ := bd_some hf
        refine a_callV (pc := 103) (bs' := [bX12 y a0 t6.2]) (kb := 0) (j := 0) F [0] (c_X12_ofPlank l D y ek n a0 _ _ _ _ ht10) (cwV 2 F.1.2.2.2.2 (gV q7_88 q7_90 qs_56 q1_11 q7_91) rfl rfl rfl (by decide +kernel) ⟨Nat.le_of_ble_eq_true rfl, Nat.le_of_ble_eq_true rfl⟩) rfl rfl rfl rfl (by decide) rfl rfl rfl rfl rfl rfl (Nat.le_of_ble_eq_true rfl) ⟨Nat.zero_le _, Nat.zero_le _⟩ dX12_plank_103 ?_
        obtain rfl := Option.some.inj hf
        exact hret _ _ _ _ (Nat.zero_le _) (Nat.zero_le _) rfl dX12_plank_106
      · replace hf := it_neg h hf
        refine a_iconst (pc := 41) F dX12_plank_41 kc_0 ?_
        obtain rfl := Option.some.inj hf
        exact hret _ _ _ _ (Nat.zero_le _) (Nat.zero_le _) rfl dX12_plank_42
    · refine a_if_ne (pc := 26) (tgt := 33) F dX12_plank_26 (by decide) (fun h => ?_) (fun h => ?_)
      · replace hf := it_neg h hf
        refine a_iconst (pc := 33) F dX12_plank_33 kc_0 ?_
        obtain rfl := Option.some.inj hf
        exact J5
      · replace hf := it_pos h hf
        refine a_iconst (pc := 29) F dX12_plank_29 kc_1 ?_
        refine a_goto (pc := 30) (tgt := 34) F dX12_plank_30 (by decide) ?_
        obtain rfl := Option.some.inj hf
        exact J5

abbrev wX12_house : List Cond := Cond.code yX12_house cX12_house 3 (some .int) :: WALL
def m_X12_house (n : Nat) (v0 : St) (x1 : Int32) (x2 : Int32) : Option (Int32 × St) :=
nm (su v0 0 0 0) (fun u1 =>
bd (m_X12_noHouse n u1 x1) (fun t2 =>
bd (m_X12_throwsIf n u1 t2 1) (fun t3 =>
(if t3.1 = 0 then
bd (m_X12_in n x2 0 8) (fun t4 =>
bd ((if t4 = 0 then
some 1
else
some 0)) (fun (t5 : Int32) =>
bd (m_X12_throwsIf n t3.2 t5 2) (fun t6 =>
(if t6.1 = 0 then
(if x2 = 2 then
bd (m_X12_loadOf n t6.2 x1) (fun t7 =>
some (t7, t6.2))
else
(if x2 = 3 then
bd (m_X12_heightOf n t6.2 x1) (fun t8 =>
some (t8, t6.2))
else
(if x2 = 4 then
bd (m_X12_thingsIn n t6.2 x1) (fun t9 =>
some (t9, t6.2))
else
(if x2 = 5 then
bd (m_X12_paysBy n t6.2 x1) (fun t10 =>
some (t10.1, t10.2))
else
(if x2 = 6 then
bd (m_X12_luresBy n t6.2 x1) (fun t11 =>
some (t11.1, t11.2))
else
(if x2 = 7 then
bd (m_X12_shareOf n t6.2 x1) (fun t12 =>
some (t12, t6.2))
else
(if x2 = 8 then
bd (m_X12_corkOf n t6.2 x1) (fun t13 =>
some (t13, t6.2))
else
bd (m_X12_of n t6.2 x1 x2) (fun t14 =>
some (t14, t6.2)))))))))
else
some (0, t6.2)))))
else
some (0, t3.2)))))
set_option maxHeartbeats 4000000 in
set_option maxRecDepth 100000 in
theorem c_X12_house (l : Launch) (D : va_G) (y : Nat → ClassId) (ek : EK) (n : Nat) (a0 : Nat → Nat) (v0 : St) (x1 : Int32) (x2 : Int32) (res : Int32 × St) (hf : m_X12_house n v0 x1 x2 = some res) : CI l yX12_house wX12_house { frames := 10, cells := 0, slots := 0, locals := 226 } D y ek [.ref (a0 0), .int x1, .int x2] [bX12 y a0 v0] (res.1) [bX12 y a0 res.2] 0 0 := by
  unfold m_X12_house at hf
  refine ci_of (cc := cX12_house) (maxL := 3) (by decide) rfl rfl (Nat.le_of_ble_eq_true rfl) ?_
  intro p e s m below meth c Q A F hret
  refine a_lv (lv' := [(0, .ref (a0 0)), (1, .int x1), (2, .int x2)]) rfl ?_
  refine a_aloadn (pc := 0) (j := 0) F dX12_house_0 rfl rfl ?_
  refine a_iconst (pc := 1) F dX12_house_1 kc_0 ?_
  obtain ⟨u1, eu1, hf⟩ := nm_some hf
  refine a_put (pc := 2) (kb := 0) (j := 0) (f := 0) (ty := .int) (bs' := [bX12 y a0 u1]) F iW_X12 rfl rfl rfl (by decide) (tl q6_68) (fun _ h => h) tyX12 tyX12_ok nmX12 rfl rfl rfl rfl (Nat.le_of_ble_eq_true rfl) (by rw [eu1]; rfl) dX12_house_2 ?_
  refine a_aloadn (pc := 5) (j := 0) F dX12_house_5 rfl rfl ?_
  refine a_aloadn (pc := 6) (j := 0) F dX12_house_6 rfl rfl ?_
  refine a_iloadn (pc := 7) (j := 1) F dX12_house_7 rfl rfl ?_
  obtain ⟨t2, ht2, hf⟩ := bd_some hf
  refine a_callV (pc := 8) (bs' := [bX12 y a0 u1]) (kb := 0) (j := 0) F [0] (c_X12_noHouse l D y ek n a0 _ _ _ ht2) (cwV 1 F.1.2.2.2.2 (gV q7_159 q7_161 qs_70 q1_11 q7_162) rfl rfl rfl (by decide +kernel) ⟨Nat.le_of_ble_eq_true rfl, Nat.le_of_ble_eq_true rfl⟩) rfl rfl rfl rfl (by decide) rfl rfl rfl rfl rfl rfl (Nat.le_of_ble_eq_true rfl) ⟨Nat.zero_le _, Nat.zero_le _⟩ dX12_house_8 ?_
  refine a_iconst (pc := 11) F dX12_house_11 kc_1 ?_
  obtain ⟨t3, ht3, hf⟩ := bd_some hf
  refine a_callV (pc := 12) (bs' := [bX12 y a0 t3.2]) (kb := 0) (j := 0) F [0] (c_X12_throwsIf l D y ek n a0 _ _ _ _ ht3) (cwV 2 F.1.2.2.2.2 (gV q7_61 q7_63 qs_52 q1_11 q7_64) rfl rfl rfl (by decide +kernel) ⟨Nat.le_of_ble_eq_true rfl, Nat.le_of_ble_eq_true rfl⟩) rfl rfl rfl rfl (by decide) rfl rfl rfl rfl rfl rfl (Nat.le_of_ble_eq_true rfl) ⟨Nat.zero_le _, Nat.zero_le _⟩ dX12_house_12 ?_
  refine a_if_ne (pc := 15) (tgt := 41) F dX12_house_15 (by decide) (fun h => ?_) (fun h => ?_)
  · replace hf := it_neg h hf
    refine a_iconst (pc := 41) F dX12_house_41 kc_0 ?_
    obtain rfl := Option.some.inj hf
    exact hret _ _ _ _ (Nat.zero_le _) (Nat.zero_le _) rfl dX12_house_42
  · replace hf := it_pos h hf
    refine a_aloadn (pc := 18) (j := 0) F dX12_house_18 rfl rfl ?_
    refine a_iloadn (pc := 19) (j := 2) F dX12_house_19 rfl rfl ?_
    refine a_iconst (pc := 20) F dX12_house_20 kc_0 ?_
    refine a_bipush (pc := 21) F dX12_house_21 kb_8 ?_
    obtain ⟨t4, ht4, hf⟩ := bd_some hf
    refine a_callS (pc := 23) (bs' := [bX12 y a0 t3.2]) F [] (c_X12_in l D y ek n  _ _ _ _ ht4) (va_cwS 3 F.1.2.2.2.2 (gS q7_77 q7_78 q1_11 q7_79) rfl rfl rfl (by decide +kernel) ⟨Nat.le_of_ble_eq_true rfl, Nat.le_of_ble_eq_true rfl⟩) (by decide) rfl rfl rfl rfl rfl rfl (Nat.le_of_ble_eq_true rfl) ⟨Nat.zero_le _, Nat.zero_le _⟩ dX12_house_23 ?_
    refine a_join 34 (fun (t5 : Int32) => [(0, .ref (a0 0)), (1, .int x1), (2, .int x2)]) (fun (t5 : Int32) => [.int t5, .ref (a0 0)]) (fun (t5 : Int32) => [bX12 y a0 t3.2]) hf (fun t5 hf => ?_) (fun t5 hf J5 => ?_)
    · try dsimp only at hf ⊢
      refine a_iconst (pc := 34) F dX12_house_34 kc_2 ?_
      obtain ⟨t6, ht6, hf⟩ := bd_some hf
      refine a_callV (pc := 35) (bs' := [bX12 y a0 t6.2]) (kb := 0) (j := 0) F [0] (c_X12_throwsIf l D y ek n a0 _ _ _ _ ht6) (cwV 2 F.1.2.2.2.2 (gV q7_61 q7_63 qs_52 q1_11 q7_64) rfl rfl rfl (by decide +kernel) ⟨Nat.le_of_ble_eq_true rfl, Nat.le_of_ble_eq_true rfl⟩) rfl rfl rfl rfl (by decide) rfl rfl rfl rfl rfl rfl (Nat.le_of_ble_eq_true rfl) ⟨Nat.zero_le _, Nat.zero_le _⟩ dX12_house_35 ?_
      refine a_if_eq (pc := 38) (tgt := 43) F dX12_house_38 (by decide) (fun h => ?_) (fun h => ?_)
      · replace hf := it_pos h hf
        refine a_iloadn (pc := 43) (j := 2) F dX12_house_43 rfl rfl ?_
        by_cases h2 : x2 = 2
        · replace hf := it_pos h2 hf
          refine a_tin (pc := 44) (tgt := 88) (k := 2) F dX12_house_44 (by rw [h2]; decide) (by decide) (by decide) rfl (by decide) ?_
          refine a_aloadn (pc := 88) (j := 0) F dX12_house_88 rfl rfl ?_
          refine a_iloadn (pc := 89) (j := 1) F dX12_house_89 rfl rfl ?_
          obtain ⟨t7, ht7, hf⟩ := bd_some hf
          refine a_callV (pc := 90) (bs' := [bX12 y a0 t6.2]) (kb := 0) (j := 0) F [0] (c_X12_loadOf l D y ek n a0 _ _ _ ht7) (cwV 1 F.1.2.2.2.2 (gV q7_92 q7_94 qs_57 q1_11 q7_95) rfl rfl rfl (by decide +kernel) ⟨Nat.le_of_ble_eq_true rfl, Nat.le_of_ble_eq_true rfl⟩) rfl rfl rfl rfl (by decide) rfl rfl rfl rfl rfl rfl (Nat.le_of_ble_eq_true rfl) ⟨Nat.zero_le _, Nat.zero_le _⟩ dX12_house_90 ?_
          obtain rfl := Option.some.inj hf
          exact hret _ _ _ _ (Nat.zero_le _) (Nat.zero_le _) rfl dX12_house_93
        replace hf := it_neg h2 hf
        by_cases h3 : x2 = 3
        · replace hf := it_pos h3 hf
          refine a_tin (pc := 44) (tgt := 94) (k := 3) F dX12_house_44 (by rw [h3]; decide) (by decide) (by decide) rfl (by decide) ?_
          refine a_aloadn (pc := 94) (j := 0) F dX12_house_94 rfl rfl ?_
          refine a_iloadn (pc := 95) (j := 1) F dX12_house_95 rfl rfl ?_
          obtain ⟨t8, ht8, hf⟩ := bd_some hf
          refine a_callV (pc := 96) (bs' := [bX12 y a0 t6.2]) (kb := 0) (j := 0) F [0] (c_X12_heightOf l D y ek n a0 _ _ _ ht8) (cwV 1 F.1.2.2.2.2 (gV q7_145 q7_147 qs_69 q1_11 q7_148) rfl rfl rfl (by decide +kernel) ⟨Nat.le_of_ble_eq_true rfl, Nat.le_of_ble_eq_true rfl⟩) rfl rfl rfl rfl (by decide) rfl rfl rfl rfl rfl rfl (Nat.le_of_ble_eq_true rfl) ⟨Nat.zero_le _, Nat.zero_le _⟩ dX12_house_96 ?_
          obtain rfl := Option.some.inj hf
          exact hret _ _ _ _ (Nat.zero_le _) (Nat.zero_le _) rfl dX12_house_99
        replace hf := it_neg h3 hf
        by_cases h4 : x2 = 4
        · replace hf := it_pos h4 hf
          refine a_tin (pc := 44) (tgt := 100) (k := 4) F dX12_house_44 (by rw [h4]; decide) (by decide) (by decide) rfl (by decide) ?_
          refine a_aloadn (pc := 100) (j := 0) F dX12_house_100 rfl rfl ?_
          refine a_iloadn (pc := 101) (j := 1) F dX12_house_101 rfl rfl ?_
          obtain ⟨t9, ht9, hf⟩ := bd_some hf
          refine a_callV (pc := 102) (bs' := [bX12 y a0 t6.2]) (kb := 0) (j := 0) F [0] (c_X12_thingsIn l D y ek n a0 _ _ _ ht9) (cwV 1 F.1.2.2.2.2 (gV q7_96 q7_98 qs_58 q1_11 q7_99) rfl rfl rfl (by decide +kernel) ⟨Nat.le_of_ble_eq_true rfl, Nat.le_of_ble_eq_true rfl⟩) rfl rfl rfl rfl (by decide) rfl rfl rfl rfl rfl rfl (Nat.le_of_ble_eq_true rfl) ⟨Nat.zero_le _, Nat.zero_le _⟩ dX12_house_102 ?_
          obtain rfl := Option.some.inj hf
          exact hret _ _ _ _ (Nat.zero_le _) (Nat.zero_le _) rfl dX12_house_105
        replace hf := it_neg h4 hf
        by_cases h5 : x2 = 5
        · replace hf := it_pos h5 hf
          refine a_tin (pc := 44) (tgt := 106) (k := 5) F dX12_house_44 (by rw [h5]; decide) (by decide) (by decide) rfl (by decide) ?_
          refine a_aloadn (pc := 106) (j := 0) F dX12_house_106 rfl rfl ?_
          refine a_iloadn (pc := 107) (j := 1) F dX12_house_107 rfl rfl ?_
          obtain ⟨t10, ht10, hf⟩ := bd_some hf
          refine a_callV (pc := 108) (bs' := [bX12 y a0 t10.2]) (kb := 0) (j := 0) F [0] (c_X12_paysBy l D y ek n a0 _ _ _ ht10) (cwV 1 F.1.2.2.2.2 (gV q7_163 q7_165 qs_71 q1_11 q7_166) rfl rfl rfl (by decide +kernel) ⟨Nat.le_of_ble_eq_true rfl, Nat.le_of_ble_eq_true rfl⟩) rfl rfl rfl rfl (by decide) rfl rfl rfl rfl rfl rfl (Nat.le_of_ble_eq_true rfl) ⟨Nat.zero_le _, Nat.zero_le _⟩ dX12_house_108 ?_
          obtain rfl := Option.some.inj hf
          exact hret _ _ _ _ (Nat.zero_le _) (Nat.zero_le _) rfl dX12_house_111
        replace hf := it_neg h5 hf
        by_cases h6 : x2 = 6
        · replace hf := it_pos h6 hf
          refine a_tin (pc := 44) (tgt := 112) (k := 6) F dX12_house_44 (by rw [h6]; decide) (by decide) (by decide) rfl (by decide) ?_
          refine a_aloadn (pc := 112) (j := 0) F dX12_house_112 rfl rfl ?_
          refine a_iloadn (pc := 113) (j := 1) F dX12_house_113 rfl rfl ?_
          obtain ⟨t11, ht11, hf⟩ := bd_some hf
          refine a_callV (pc := 114) (bs' := [bX12 y a0 t11.2]) (kb := 0) (j := 0) F [0] (c_X12_luresBy l D y ek n a0 _ _ _ ht11) (cwV 1 F.1.2.2.2.2 (gV q7_167 q7_169 qs_72 q1_11 q7_170) rfl rfl rfl (by decide +kernel) ⟨Nat.le_of_ble_eq_true rfl, Nat.le_of_ble_eq_true rfl⟩) rfl rfl rfl rfl (by decide) rfl rfl rfl rfl rfl rfl (Nat.le_of_ble_eq_true rfl) ⟨Nat.zero_le _, Nat.zero_le _⟩ dX12_house_114 ?_
          obtain rfl := Option.some.inj hf
          exact hret _ _ _ _ (Nat.zero_le _) (Nat.zero_le _) rfl dX12_house_117
        replace hf := it_neg h6 hf
        by_cases h7 : x2 = 7
        · replace hf := it_pos h7 hf
          refine a_tin (pc := 44) (tgt := 118) (k := 7) F dX12_house_44 (by rw [h7]; decide) (by decide) (by decide) rfl (by decide) ?_
          refine a_aloadn (pc := 118) (j := 0) F dX12_house_118 rfl rfl ?_
          refine a_iloadn (pc := 119) (j := 1) F dX12_house_119 rfl rfl ?_
          obtain ⟨t12, ht12, hf⟩ := bd_some hf
          refine a_callV (pc := 120) (bs' := [bX12 y a0 t6.2]) (kb := 0) (j := 0) F [0] (c_X12_shareOf l D y ek n a0 _ _ _ ht12) (cwV 1 F.1.2.2.2.2 (gV q7_175 q7_177 qs_74 q1_11 q7_178) rfl rfl rfl (by decide +kernel) ⟨Nat.le_of_ble_eq_true rfl, Nat.le_of_ble_eq_true rfl⟩) rfl rfl rfl rfl (by decide) rfl rfl rfl rfl rfl rfl (Nat.le_of_ble_eq_true rfl) ⟨Nat.zero_le _, Nat.zero_le _⟩ dX12_house_120 ?_
          obtain rfl := Option.some.inj hf
          exact hret _ _ _ _ (Nat.zero_le _) (Nat.zero_le _) rfl dX12_house_123
        replace hf := it_neg h7 hf
        by_cases h8 : x2 = 8
        · replace hf := it_pos h8 hf
          refine a_tin (pc := 44) (tgt := 124) (k := 8) F dX12_house_44 (by rw [h8]; decide) (by decide) (by decide) rfl (by decide) ?_
          refine a_aloadn (pc := 124) (j := 0) F dX12_house_124 rfl rfl ?_
          refine a_iloadn (pc := 125) (j := 1) F dX12_house_125 rfl rfl ?_
          obtain ⟨t13, ht13, hf⟩ := bd_some hf
          refine a_callV (pc := 126) (bs' := [bX12 y a0 t6.2]) (kb := 0) (j := 0) F [0] (c_X12_corkOf l D y ek n a0 _ _ _ ht13) (cwV 1 F.1.2.2.2.2 (gV q7_183 q7_185 qs_76 q1_11 q7_186) rfl rfl rfl (by decide +kernel) ⟨Nat.le_of_ble_eq_true rfl, Nat.le_of_ble_eq_true rfl⟩) rfl rfl rfl rfl (by decide) rfl rfl rfl rfl rfl rfl (Nat.le_of_ble_eq_true rfl) ⟨Nat.zero_le _, Nat.zero_le _⟩ dX12_house_126 ?_
          obtain rfl := Option.some.inj hf
          exact hret _ _ _ _ (Nat.zero_le _) (Nat.zero_le _) rfl dX12_house_129
        replace hf := it_neg h8 hf
        refine a_tout (pc := 44) (tgt := 130) F dX12_house_44 (by have := sw_ne 2 h2 (by decide); have := sw_ne 3 h3 (by decide); have := sw_ne 4 h4 (by decide); have := sw_ne 5 h5 (by decide); have := sw_ne 6 h6 (by decide); have := sw_ne 7 h7 (by decide); have := sw_ne 8 h8 (by decide); omega) (by decide) ?_
        refine a_aloadn (pc := 130) (j := 0) F dX12_house_130 rfl rfl ?_
        refine a_iloadn (pc := 131) (j := 1) F dX12_house_131 rfl rfl ?_
        refine a_iloadn (pc := 132) (j := 2) F dX12_house_132 rfl rfl ?_
        obtain ⟨t14, ht14, hf⟩ := bd_some hf
        refine a_callV (pc := 133) (bs' := [bX12 y a0 t6.2]) (kb := 0) (j := 0) F [0] (c_X12_of l D y ek n a0 _ _ _ _ ht14) (cwV 2 F.1.2.2.2.2 (gV q7_111 q7_113 qs_61 q1_11 q7_114) rfl rfl rfl (by decide +kernel) ⟨Nat.le_of_ble_eq_true rfl, Nat.le_of_ble_eq_true rfl⟩) rfl rfl rfl rfl (by decide) rfl rfl rfl rfl rfl rfl (Nat.le_of_ble_eq_true rfl) ⟨Nat.zero_le _, Nat.zero_le _⟩ dX12_house_133 ?_
        obtain rfl := Option.some.inj hf
        exact hret _ _ _ _ (Nat.zero_le _) (Nat.zero_le _) rfl dX12_house_136
      · replace hf := it_neg h hf
        refine a_iconst (pc := 41) F dX12_house_41 kc_0 ?_
        obtain rfl := Option.some.inj hf
        exact hret _ _ _ _ (Nat.zero_le _) (Nat.zero_le _) rfl dX12_house_42
    · refine a_if_ne (pc := 26) (tgt := 33) F dX12_house_26 (by decide) (fun h => ?_) (fun h => ?_)
      · replace hf := it_neg h hf
        refine a_iconst (pc := 33) F dX12_house_33 kc_0 ?_
        obtain rfl := Option.some.inj hf
        exact J5
      · replace hf := it_pos h hf
        refine a_iconst (pc := 29) F dX12_house_29 kc_1 ?_
        refine a_goto (pc := 30) (tgt := 34) F dX12_house_30 (by decide) ?_
        obtain rfl := Option.some.inj hf
        exact J5

abbrev wX12_thing : List Cond := Cond.code yX12_thing cX12_thing 3 (some .int) :: WALL
def m_X12_thing (n : Nat) (v0 : St) (x1 : Int32) (x2 : Int32) : Option (Int32 × St) :=
nm (su v0 0 0 0) (fun u1 =>
bd (m_X12_noThing n u1 x1) (fun t2 =>
bd (m_X12_throwsIf n u1 t2 1) (fun t3 =>
jn (fun (t4 : St) =>
some (0, t4)) (fun (K4 : St → Option (Int32 × St)) =>
(if t3.1 = 0 then
bd (m_X12_in n x2 0 2) (fun t5 =>
bd ((if t5 = 0 then
some 1
else
some 0)) (fun (t6 : Int32) =>
bd (m_X12_throwsIf n t3.2 t6 2) (fun t7 =>
(if t7.1 = 0 then
bd (m_X12_ofThing n t7.2 x1 x2) (fun t8 =>
some (t8, t7.2))
else
K4 t7.2))))
else
K4 t3.2)))))
set_option maxHeartbeats 4000000 in
set_option maxRecDepth 100000 in
theorem c_X12_thing (l : Launch) (D : va_G) (y : Nat → ClassId) (ek : EK) (n : Nat) (a0 : Nat → Nat) (v0 : St) (x1 : Int32) (x2 : Int32) (res : Int32 × St) (hf : m_X12_thing n v0 x1 x2 = some res) : CI l yX12_thing wX12_thing { frames := 2, cells := 0, slots := 0, locals := 43 } D y ek [.ref (a0 0), .int x1, .int x2] [bX12 y a0 v0] (res.1) [bX12 y a0 res.2] 0 0 := by
  unfold m_X12_thing at hf
  refine ci_of (cc := cX12_thing) (maxL := 3) (by decide) rfl rfl (Nat.le_of_ble_eq_true rfl) ?_
  intro p e s m below meth c Q A F hret
  refine a_lv (lv' := [(0, .ref (a0 0)), (1, .int x1), (2, .int x2)]) rfl ?_
  refine a_aloadn (pc := 0) (j := 0) F dX12_thing_0 rfl rfl ?_
  refine a_iconst (pc := 1) F dX12_thing_1 kc_0 ?_
  obtain ⟨u1, eu1, hf⟩ := nm_some hf
  refine a_put (pc := 2) (kb := 0) (j := 0) (f := 0) (ty := .int) (bs' := [bX12 y a0 u1]) F iW_X12 rfl rfl rfl (by decide) (tl q6_68) (fun _ h => h) tyX12 tyX12_ok nmX12 rfl rfl rfl rfl (Nat.le_of_ble_eq_true rfl) (by rw [eu1]; rfl) dX12_thing_2 ?_
  refine a_aloadn (pc := 5) (j := 0) F dX12_thing_5 rfl rfl ?_
  refine a_aloadn (pc := 6) (j := 0) F dX12_thing_6 rfl rfl ?_
  refine a_iloadn (pc := 7) (j := 1) F dX12_thing_7 rfl rfl ?_
  obtain ⟨t2, ht2, hf⟩ := bd_some hf
  refine a_callV (pc := 8) (bs' := [bX12 y a0 u1]) (kb := 0) (j := 0) F [0] (c_X12_noThing l D y ek n a0 _ _ _ ht2) (cwV 1 F.1.2.2.2.2 (gV q7_191 q7_193 qs_77 q1_11 q7_194) rfl rfl rfl (by decide +kernel) ⟨Nat.le_of_ble_eq_true rfl, Nat.le_of_ble_eq_true rfl⟩) rfl rfl rfl rfl (by decide) rfl rfl rfl rfl rfl rfl (Nat.le_of_ble_eq_true rfl) ⟨Nat.zero_le _, Nat.zero_le _⟩ dX12_thing_8 ?_
  refine a_iconst (pc := 11) F dX12_thing_11 kc_1 ?_
  obtain ⟨t3, ht3, hf⟩ := bd_some hf
  refine a_callV (pc := 12) (bs' := [bX12 y a0 t3.2]) (kb := 0) (j := 0) F [0] (c_X12_throwsIf l D y ek n a0 _ _ _ _ ht3) (cwV 2 F.1.2.2.2.2 (gV q7_61 q7_63 qs_52 q1_11 q7_64) rfl rfl rfl (by decide +kernel) ⟨Nat.le_of_ble_eq_true rfl, Nat.le_of_ble_eq_true rfl⟩) rfl rfl rfl rfl (by decide) rfl rfl rfl rfl rfl rfl (Nat.le_of_ble_eq_true rfl) ⟨Nat.zero_le _, Nat.zero_le _⟩ dX12_thing_12 ?_
  refine a_jn 40 (fun (t4 : St) => []) (fun (t4 : St) => []) (fun (t4 : St) => [bX12 y a0 t4]) hf (fun t4 hf => ?_) (fun K4 hK4 hf => ?_)
  · try dsimp only at hf ⊢
    refine a_iconst (pc := 40) F dX12_thing_40 kc_0 ?_
    refine a_goto (pc := 41) (tgt := 50) F dX12_thing_41 (by decide) ?_
    obtain rfl := Option.some.inj hf
    exact hret _ _ _ _ (Nat.zero_le _) (Nat.zero_le _) rfl dX12_thing_50
  · try dsimp only at hf
    refine a_if_ne (pc := 15) (tgt := 40) F dX12_thing_15 (by decide) (fun h => ?_) (fun h => ?_)
    · replace hf := it_neg h hf
      refine a_sub [] rfl ?_
      exact hK4 t3.2 hf
    · replace hf := it_pos h hf
      refine a_aloadn (pc := 18) (j := 0) F dX12_thing_18 rfl rfl ?_
      refine a_iloadn (pc := 19) (j := 2) F dX12_thing_19 rfl rfl ?_
      refine a_iconst (pc := 20) F dX12_thing_20 kc_0 ?_
      refine a_iconst (pc := 21) F dX12_thing_21 kc_2 ?_
      obtain ⟨t5, ht5, hf⟩ := bd_some hf
      refine a_callS (pc := 22) (bs' := [bX12 y a0 t3.2]) F [] (c_X12_in l D y ek n  _ _ _ _ ht5) (va_cwS 3 F.1.2.2.2.2 (gS q7_77 q7_78 q1_11 q7_79) rfl rfl rfl (by decide +kernel) ⟨Nat.le_of_ble_eq_true rfl, Nat.le_of_ble_eq_true rfl⟩) (by decide) rfl rfl rfl rfl rfl rfl (Nat.le_of_ble_eq_true rfl) ⟨Nat.zero_le _, Nat.zero_le _⟩ dX12_thing_22 ?_
      refine a_join 33 (fun (t6 : Int32) => [(0, .ref (a0 0)), (1, .int x1), (2, .int x2)]) (fun (t6 : Int32) => [.int t6, .ref (a0 0)]) (fun (t6 : Int32) => [bX12 y a0 t3.2]) hf (fun t6 hf => ?_) (fun t6 hf J6 => ?_)
      · try dsimp only at hf ⊢
        refine a_iconst (pc := 33) F dX12_thing_33 kc_2 ?_
        obtain ⟨t7, ht7, hf⟩ := bd_some hf
        refine a_callV (pc := 34) (bs' := [bX12 y a0 t7.2]) (kb := 0) (j := 0) F [0] (c_X12_throwsIf l D y ek n a0 _ _ _ _ ht7) (cwV 2 F.1.2.2.2.2 (gV q7_61 q7_63 qs_52 q1_11 q7_64) rfl rfl rfl (by decide +kernel) ⟨Nat.le_of_ble_eq_true rfl, Nat.le_of_ble_eq_true rfl⟩) rfl rfl rfl rfl (by decide) rfl rfl rfl rfl rfl rfl (Nat.le_of_ble_eq_true rfl) ⟨Nat.zero_le _, Nat.zero_le _⟩ dX12_thing_34 ?_
        refine a_if_eq (pc := 37) (tgt := 44) F dX12_thing_37 (by decide) (fun h => ?_) (fun h => ?_)
        · replace hf := it_pos h hf
          refine a_aloadn (pc := 44) (j := 0) F dX12_thing_44 rfl rfl ?_
          refine a_iloadn (pc := 45) (j := 1) F dX12_thing_45 rfl rfl ?_
          refine a_iloadn (pc := 46) (j := 2) F dX12_thing_46 rfl rfl ?_
          obtain ⟨t8, ht8, hf⟩ := bd_some hf
          refine a_callV (pc := 47) (bs' := [bX12 y a0 t7.2]) (kb := 0) (j := 0) F [0] (c_X12_ofThing l D y ek n a0 _ _ _ _ ht8) (cwV 2 F.1.2.2.2.2 (gV q7_100 q7_102 qs_59 q1_11 q7_103) rfl rfl rfl (by decide +kernel) ⟨Nat.le_of_ble_eq_true rfl, Nat.le_of_ble_eq_true rfl⟩) rfl rfl rfl rfl (by decide) rfl rfl rfl rfl rfl rfl (Nat.le_of_ble_eq_true rfl) ⟨Nat.zero_le _, Nat.zero_le _⟩ dX12_thing_47 ?_
          obtain rfl := Option.some.inj hf
          exact hret _ _ _ _ (Nat.zero_le _) (Nat.zero_le _) rfl dX12_thing_50
        · replace hf := it_neg h hf
          refine a_sub [] rfl ?_
          exact hK4 t7.2 hf
      · refine a_if_ne (pc := 25) (tgt := 32) F dX12_thing_25 (by decide) (fun h => ?_) (fun h => ?_)
        · replace hf := it_neg h hf
          refine a_iconst (pc := 32) F dX12_thing_32 kc_0 ?_
          obtain rfl := Option.some.inj hf
          exact J6
        · replace hf := it_pos h hf
          refine a_iconst (pc := 28) F dX12_thing_28 kc_1 ?_
          refine a_goto (pc := 29) (tgt := 33) F dX12_thing_29 (by decide) ?_
          obtain rfl := Option.some.inj hf
          exact J6

abbrev wX12_tells : List Cond := Cond.code yX12_tells cX12_tells 6 none :: WALL
def m_X12_tells (n : Nat) (v0 : St) (x1 : Int32) (x2 : Int32) (x3 : Int32) (x4 : Int32) : Option (St) :=
bd (lp (fun (rc8 : Int32 × St → Option (St)) (x8l : Int32 × St) =>
(if x8l.1 < 5 then
some x8l.2
else
(if ix ((82 + x8l.1) - 5) 2080 then (if ix (82 + x8l.1) 2080 then nm (su x8l.2 1 ((82 + x8l.1)).toNatClampNeg (x8l.2 1 (((82 + x8l.1) - 5)).toNatClampNeg)) (fun u11 =>
rc8 ((x8l.1 + (-1)), u11)) else none) else none))) n (299, v0)) (fun (t1 : St) =>
nm (su t1 1 82 (t1 1 4)) (fun u2 =>
nm (su u2 1 83 x1) (fun u3 =>
nm (su u3 1 84 x2) (fun u4 =>
nm (su u4 1 85 x3) (fun u5 =>
nm (su u5 1 86 x4) (fun u6 =>
nm (su u6 1 10 (x_min 60 ((u6 1 10) + 1))) (fun u7 =>
some u7)))))))
set_option maxHeartbeats 4000000 in
set_option maxRecDepth 100000 in
theorem c_X12_tells (l : Launch) (D : va_G) (y : Nat → ClassId) (ek : EK) (n : Nat) (a0 : Nat → Nat) (v0 : St) (x1 : Int32) (x2 : Int32) (x3 : Int32) (x4 : Int32) (res : St) (hf : m_X12_tells n v0 x1 x2 x3 x4 = some res) : CV l yX12_tells wX12_tells { frames := 1, cells := 0, slots := 0, locals := 17 } D y ek [.ref (a0 0), .int x1, .int x2, .int x3, .int x4] [bX12 y a0 v0] [bX12 y a0 res] 0 0 := by
  unfold m_X12_tells at hf
  refine cv_of (cc := cX12_tells) (maxL := 6) (by decide) rfl rfl (Nat.le_of_ble_eq_true rfl) ?_
  intro p e s m below meth c Q A F hret
  refine a_lv (lv' := [(0, .ref (a0 0)), (1, .int x1), (2, .int x2), (3, .int x3), (4, .int x4)]) rfl ?_
  refine a_sipush (pc := 0) F dX12_tells_0 ks_299 ?_
  refine a_istore (pc := 3) (lv' := [(0, .ref (a0 0)), (1, .int x1), (2, .int x2), (3, .int x3), (4, .int x4), (5, .int 299)]) F [1, 2, 3, 4, 5, 0] dX12_tells_3 (by decide) rfl ?_
  refine a_join 39 (fun (t1 : St) => [(0, .ref (a0 0)), (1, .int x1), (2, .int x2), (3, .int x3), (4, .int x4)]) (fun (t1 : St) => []) (fun (t1 : St) => [bX12 y a0 t1]) hf (fun t1 hf => ?_) (fun t1 hf J1 => ?_)
  · try dsimp only at hf ⊢
    refine a_aloadn (pc := 39) (j := 0) F dX12_tells_39 rfl rfl ?_
    refine a_get (pc := 40) (kb := 0) (j := 0) (f := 1) F iW_X12 rfl rfl rfl (by decide) (tl q6_69) (fun _ h => h) rfl dX12_tells_40 ?_
    refine a_bipush (pc := 43) F dX12_tells_43 kb_82 ?_
    refine a_aloadn (pc := 45) (j := 0) F dX12_tells_45 rfl rfl ?_
    refine a_get (pc := 46) (kb := 0) (j := 0) (f := 1) F iW_X12 rfl rfl rfl (by decide) (tl q6_69) (fun _ h => h) rfl dX12_tells_46 ?_
    refine a_iconst (pc := 49) F dX12_tells_49 kc_4 ?_
    refine a_ialdc (pc := 50) (kb := 0) (j := 1) (k := 4) F rfl rfl (by decide) (by decide) dX12_tells_50 ?_
    obtain ⟨u2, eu2, hf⟩ := nm_some hf
    refine a_iastc (pc := 51) (kb := 0) (j := 1) (k := 82) (bs' := [bX12 y a0 u2]) F rfl rfl (by decide) (by decide) (by rw [eu2]; rfl) dX12_tells_51 ?_
    refine a_aloadn (pc := 52) (j := 0) F dX12_tells_52 rfl rfl ?_
    refine a_get (pc := 53) (kb := 0) (j := 0) (f := 1) F iW_X12 rfl rfl rfl (by decide) (tl q6_69) (fun _ h => h) rfl dX12_tells_53 ?_
    refine a_bipush (pc := 56) F dX12_tells_56 kb_83 ?_
    refine a_iloadn (pc := 58) (j := 1) F dX12_tells_58 rfl rfl ?_
    obtain ⟨u3, eu3, hf⟩ := nm_some hf
    refine a_iastc (pc := 59) (kb := 0) (j := 1) (k := 83) (bs' := [bX12 y a0 u3]) F rfl rfl (by decide) (by decide) (by rw [eu3]; rfl) dX12_tells_59 ?_
    refine a_aloadn (pc := 60) (j := 0) F dX12_tells_60 rfl rfl ?_
    refine a_get (pc := 61) (kb := 0) (j := 0) (f := 1) F iW_X12 rfl rfl rfl (by decide) (tl q6_69) (fun _ h => h) rfl dX12_tells_61 ?_
    refine a_bipush (pc := 64) F dX12_tells_64 kb_84 ?_
    refine a_iloadn (pc := 66) (j := 2) F dX12_tells_66 rfl rfl ?_
    obtain ⟨u4, eu4, hf⟩ := nm_some hf
    refine a_iastc (pc := 67) (kb := 0) (j := 1) (k := 84) (bs' := [bX12 y a0 u4]) F rfl rfl (by decide) (by decide) (by rw [eu4]; rfl) dX12_tells_67 ?_
    refine a_aloadn (pc := 68) (j := 0) F dX12_tells_68 rfl rfl ?_
    refine a_get (pc := 69) (kb := 0) (j := 0) (f := 1) F iW_X12 rfl rfl rfl (by decide) (tl q6_69) (fun _ h => h) rfl dX12_tells_69 ?_
    refine a_bipush (pc := 72) F dX12_tells_72 kb_85 ?_
    refine a_iloadn (pc := 74) (j := 3) F dX12_tells_74 rfl rfl ?_
    obtain ⟨u5, eu5, hf⟩ := nm_some hf
    refine a_iastc (pc := 75) (kb := 0) (j := 1) (k := 85) (bs' := [bX12 y a0 u5]) F rfl rfl (by decide) (by decide) (by rw [eu5]; rfl) dX12_tells_75 ?_
    refine a_aloadn (pc := 76) (j := 0) F dX12_tells_76 rfl rfl ?_
    refine a_get (pc := 77) (kb := 0) (j := 0) (f := 1) F iW_X12 rfl rfl rfl (by decide) (tl q6_69) (fun _ h => h) rfl dX12_tells_77 ?_
    refine a_bipush (pc := 80) F dX12_tells_80 kb_86 ?_
    refine a_iload (pc := 82) (j := 4) F dX12_tells_82 rfl ?_
    obtain ⟨u6, eu6, hf⟩ := nm_some hf
    refine a_iastc (pc := 84) (kb := 0) (j := 1) (k := 86) (bs' := [bX12 y a0 u6]) F rfl rfl (by decide) (by decide) (by rw [eu6]; rfl) dX12_tells_84 ?_
    refine a_aloadn (pc := 85) (j := 0) F dX12_tells_85 rfl rfl ?_
    refine a_get (pc := 86) (kb := 0) (j := 0) (f := 1) F iW_X12 rfl rfl rfl (by decide) (tl q6_69) (fun _ h => h) rfl dX12_tells_86 ?_
    refine a_bipush (pc := 89) F dX12_tells_89 kb_10 ?_
    refine a_bipush (pc := 91) F dX12_tells_91 kb_60 ?_
    refine a_aloadn (pc := 93) (j := 0) F dX12_tells_93 rfl rfl ?_
    refine a_get (pc := 94) (kb := 0) (j := 0) (f := 1) F iW_X12 rfl rfl rfl (by decide) (tl q6_69) (fun _ h => h) rfl dX12_tells_94 ?_
    refine a_bipush (pc := 97) F dX12_tells_97 kb_10 ?_
    refine a_ialdc (pc := 99) (kb := 0) (j := 1) (k := 10) F rfl rfl (by decide) (by decide) dX12_tells_99 ?_
    refine a_iconst (pc := 100) F dX12_tells_100 kc_1 ?_
    refine a_iadd (pc := 101) F dX12_tells_101 ?_
    refine a_mmin (pc := 102) F (tl q7_119) (tl q2_170) (tl q1_22) (tl q_math_min) (Nat.le_of_ble_eq_true rfl) (Nat.le_of_ble_eq_true rfl) (Nat.zero_le _) (Nat.zero_le _) dX12_tells_102 ?_
    obtain ⟨u7, eu7, hf⟩ := nm_some hf
    refine a_iastc (pc := 105) (kb := 0) (j := 1) (k := 10) (bs' := [bX12 y a0 u7]) F rfl rfl (by decide) (by decide) (by rw [eu7]; rfl) dX12_tells_105 ?_
    obtain rfl := Option.some.inj hf
    exact hret _ _ _ _ (Nat.zero_le _) (Nat.zero_le _) dX12_tells_106
  · refine a_loop 5 (fun (x8l : Int32 × St) => [(0, .ref (a0 0)), (1, .int x1), (2, .int x2), (3, .int x3), (4, .int x4), (5, .int x8l.1)]) (fun (x8l : Int32 × St) => [bX12 y a0 x8l.2]) (fun rc8 x8l ih8 hf => ?_) hf rfl rfl
    try dsimp only at hf ⊢
    refine a_iload (pc := 5) (j := 5) F dX12_tells_5 rfl ?_
    refine a_iconst (pc := 7) F dX12_tells_7 kc_5 ?_
    refine a_icmp_lt (pc := 8) (tgt := 39) F dX12_tells_8 (by decide) (fun h => ?_) (fun h => ?_)
    · replace hf := it_pos h hf
      refine a_sub [0, 1, 2, 3, 4] rfl ?_
      obtain rfl := Option.some.inj hf
      exact J1
    · replace hf := it_neg h hf
      refine a_aloadn (pc := 11) (j := 0) F dX12_tells_11 rfl rfl ?_
      refine a_get (pc := 12) (kb := 0) (j := 0) (f := 1) F iW_X12 rfl rfl rfl (by decide) (tl q6_69) (fun _ h => h) rfl dX12_tells_12 ?_
      refine a_bipush (pc := 15) F dX12_tells_15 kb_82 ?_
      refine a_iload (pc := 17) (j := 5) F dX12_tells_17 rfl ?_
      refine a_iadd (pc := 19) F dX12_tells_19 ?_
      refine a_aloadn (pc := 20) (j := 0) F dX12_tells_20 rfl rfl ?_
      refine a_get (pc := 21) (kb := 0) (j := 0) (f := 1) F iW_X12 rfl rfl rfl (by decide) (tl q6_69) (fun _ h => h) rfl dX12_tells_21 ?_
      refine a_bipush (pc := 24) F dX12_tells_24 kb_82 ?_
      refine a_iload (pc := 26) (j := 5) F dX12_tells_26 rfl ?_
      refine a_iadd (pc := 28) F dX12_tells_28 ?_
      refine a_iconst (pc := 29) F dX12_tells_29 kc_5 ?_
      refine a_isub (pc := 30) F dX12_tells_30 ?_
      obtain ⟨h9, hf⟩ := gd_some hf
      refine a_iald (pc := 31) (kb := 0) (j := 1) F rfl rfl h9 dX12_tells_31 ?_
      obtain ⟨h10, hf⟩ := gd_some hf
      obtain ⟨u11, eu11, hf⟩ := nm_some hf
      refine a_iast (pc := 32) (kb := 0) (j := 1) (bs' := [bX12 y a0 u11]) F rfl rfl h10 (by rw [eu11]; rfl) dX12_tells_32 ?_
      refine a_iinc (pc := 33) (j := 5) (v := (x8l.1 + (-1))) (lv' := [(0, .ref (a0 0)), (1, .int x1), (2, .int x2), (3, .int x3), (4, .int x4), (5, .int (x8l.1 + (-1)))]) F [1, 2, 3, 4, 5, 0] dX12_tells_33 rfl ki_m1 (by decide) rfl ?_
      refine a_goto (pc := 36) (tgt := 5) F dX12_tells_36 (by decide) ?_
      exact ih8 ((x8l.1 + (-1)), u11) hf

abbrev wX12_carry : List Cond := Cond.code yX12_carry cX12_carry 4 (some .int) :: WALL
def m_X12_carry (n : Nat) (v0 : St) (x1 : Int32) (x2 : Int32) : Option (Int32 × St) :=
nm (su v0 0 0 0) (fun u1 =>
bd (m_X12_noThing n u1 x1) (fun t2 =>
bd (jn (fun (t13 : Unit) =>
some 1) (fun (K13 : Unit → Option (Int32)) =>
(if t2 = 0 then
bd (m_X12_noHouse n u1 x2) (fun t14 =>
(if t14 = 0 then
some 0
else
K13 ()))
else
K13 ()))) (fun (t3 : Int32) =>
bd (m_X12_throwsIf n u1 t3 1) (fun t4 =>
(if t4.1 = 0 then
bd (m_X12_isGone n t4.2 x1) (fun t5 =>
bd (m_X12_throwsIf n t4.2 t5 2) (fun t6 =>
(if t6.1 = 0 then
bd (m_X12_remembers n t6.2) (fun t7 =>
bd (m_X12_ofThing n t7 x1 2) (fun t8 =>
bd (m_X12_thingAt n x1 2) (fun t9 =>
(if ix t9 2080 then nm (su t7 1 (t9).toNatClampNeg x2) (fun u11 =>
bd (m_X12_tells n u11 x1 t8 x2 0) (fun t12 =>
some (t8, t12))) else none))))
else
some (0, t6.2))))
else
some (0, t4.2))))))
set_option maxHeartbeats 4000000 in
set_option maxRecDepth 100000 in
theorem c_X12_carry (l : Launch) (D : va_G) (y : Nat → ClassId) (ek : EK) (n : Nat) (a0 : Nat → Nat) (v0 : St) (x1 : Int32) (x2 : Int32) (res : Int32 × St) (hf : m_X12_carry n v0 x1 x2 = some res) : CI l yX12_carry wX12_carry { frames := 3, cells := 0, slots := 0, locals := 64 } D y ek [.ref (a0 0), .int x1, .int x2] [bX12 y a0 v0] (res.1) [bX12 y a0 res.2] 0 0 := by
  unfold m_X12_carry at hf
  refine ci_of (cc := cX12_carry) (maxL := 4) (by decide) rfl rfl (Nat.le_of_ble_eq_true rfl) ?_
  intro p e s m below meth c Q A F hret
  refine a_lv (lv' := [(0, .ref (a0 0)), (1, .int x1), (2, .int x2)]) rfl ?_
  refine a_aloadn (pc := 0) (j := 0) F dX12_carry_0 rfl rfl ?_
  refine a_iconst (pc := 1) F dX12_carry_1 kc_0 ?_
  obtain ⟨u1, eu1, hf⟩ := nm_some hf
  refine a_put (pc := 2) (kb := 0) (j := 0) (f := 0) (ty := .int) (bs' := [bX12 y a0 u1]) F iW_X12 rfl rfl rfl (by decide) (tl q6_68) (fun _ h => h) tyX12 tyX12_ok nmX12 rfl rfl rfl rfl (Nat.le_of_ble_eq_true rfl) (by rw [eu1]; rfl) dX12_carry_2 ?_
  refine a_aloadn (pc := 5) (j := 0) F dX12_carry_5 rfl rfl ?_
  refine a_aloadn (pc := 6) (j := 0) F dX12_carry_6 rfl rfl ?_
  refine a_iloadn (pc := 7) (j := 1) F dX12_carry_7 rfl rfl ?_
  obtain ⟨t2, ht2, hf⟩ := bd_some hf
  refine a_callV (pc := 8) (bs' := [bX12 y a0 u1]) (kb := 0) (j := 0) F [0] (c_X12_noThing l D y ek n a0 _ _ _ ht2) (cwV 1 F.1.2.2.2.2 (gV q7_191 q7_193 qs_77 q1_11 q7_194) rfl rfl rfl (by decide +kernel) ⟨Nat.le_of_ble_eq_true rfl, Nat.le_of_ble_eq_true rfl⟩) rfl rfl rfl rfl (by decide) rfl rfl rfl rfl rfl rfl (Nat.le_of_ble_eq_true rfl) ⟨Nat.zero_le _, Nat.zero_le _⟩ dX12_carry_8 ?_
  refine a_join 27 (fun (t3 : Int32) => [(0, .ref (a0 0)), (1, .int x1), (2, .int x2)]) (fun (t3 : Int32) => [.int t3, .ref (a0 0)]) (fun (t3 : Int32) => [bX12 y a0 u1]) hf (fun t3 hf => ?_) (fun t3 hf J3 => ?_)
  · try dsimp only at hf ⊢
    refine a_iconst (pc := 27) F dX12_carry_27 kc_1 ?_
    obtain ⟨t4, ht4, hf⟩ := bd_some hf
    refine a_callV (pc := 28) (bs' := [bX12 y a0 t4.2]) (kb := 0) (j := 0) F [0] (c_X12_throwsIf l D y ek n a0 _ _ _ _ ht4) (cwV 2 F.1.2.2.2.2 (gV q7_61 q7_63 qs_52 q1_11 q7_64) rfl rfl rfl (by decide +kernel) ⟨Nat.le_of_ble_eq_true rfl, Nat.le_of_ble_eq_true rfl⟩) rfl rfl rfl rfl (by decide) rfl rfl rfl rfl rfl rfl (Nat.le_of_ble_eq_true rfl) ⟨Nat.zero_le _, Nat.zero_le _⟩ dX12_carry_28 ?_
    refine a_if_ne (pc := 31) (tgt := 47) F dX12_carry_31 (by decide) (fun h => ?_) (fun h => ?_)
    · replace hf := it_neg h hf
      refine a_iconst (pc := 47) F dX12_carry_47 kc_0 ?_
      obtain rfl := Option.some.inj hf
      exact hret _ _ _ _ (Nat.zero_le _) (Nat.zero_le _) rfl dX12_carry_48
    · replace hf := it_pos h hf
      refine a_aloadn (pc := 34) (j := 0) F dX12_carry_34 rfl rfl ?_
      refine a_aloadn (pc := 35) (j := 0) F dX12_carry_35 rfl rfl ?_
      refine a_iloadn (pc := 36) (j := 1) F dX12_carry_36 rfl rfl ?_
      obtain ⟨t5, ht5, hf⟩ := bd_some hf
      refine a_callV (pc := 37) (bs' := [bX12 y a0 t4.2]) (kb := 0) (j := 0) F [0] (c_X12_isGone l D y ek n a0 _ _ _ ht5) (cwV 1 F.1.2.2.2.2 (gV q7_199 q7_201 qs_78 q1_11 q7_202) rfl rfl rfl (by decide +kernel) ⟨Nat.le_of_ble_eq_true rfl, Nat.le_of_ble_eq_true rfl⟩) rfl rfl rfl rfl (by decide) rfl rfl rfl rfl rfl rfl (Nat.le_of_ble_eq_true rfl) ⟨Nat.zero_le _, Nat.zero_le _⟩ dX12_carry_37 ?_
      refine a_iconst (pc := 40) F dX12_carry_40 kc_2 ?_
      obtain ⟨t6, ht6, hf⟩ := bd_some hf
      refine a_callV (pc := 41) (bs' := [bX12 y a0 t6.2]) (kb := 0) (j := 0) F [0] (c_X12_throwsIf l D y ek n a0 _ _ _ _ ht6) (cwV 2 F.1.2.2.2.2 (gV q7_61 q7_63 qs_52 q1_11 q7_64) rfl rfl rfl (by decide +kernel) ⟨Nat.le_of_ble_eq_true rfl, Nat.le_of_ble_eq_true rfl⟩) rfl rfl rfl rfl (by decide) rfl rfl rfl rfl rfl rfl (Nat.le_of_ble_eq_true rfl) ⟨Nat.zero_le _, Nat.zero_le _⟩ dX12_carry_41 ?_
      refine a_if_eq (pc := 44) (tgt := 49) F dX12_carry_44 (by decide) (fun h => ?_) (fun h => ?_)
      · replace hf := it_pos h hf
        refine a_aloadn (pc := 49) (j := 0) F dX12_carry_49 rfl rfl ?_
        obtain ⟨t7, ht7, hf⟩ := bd_some hf
        refine a_callVv (pc := 50) (bs' := [bX12 y a0 t7]) (kb := 0) (j := 0) F [0] (c_X12_remembers l D y ek n a0 _ _ ht7) (cwV 0 F.1.2.2.2.2 (gV q7_203 q7_205 qs_79 q1_11 q7_206) rfl rfl rfl (by decide +kernel) ⟨Nat.le_of_ble_eq_true rfl, Nat.le_of_ble_eq_true rfl⟩) rfl rfl rfl rfl (by decide) rfl rfl rfl rfl rfl rfl (Nat.le_of_ble_eq_true rfl) ⟨Nat.zero_le _, Nat.zero_le _⟩ dX12_carry_50 ?_
        refine a_aloadn (pc := 53) (j := 0) F dX12_carry_53 rfl rfl ?_
        refine a_iloadn (pc := 54) (j := 1) F dX12_carry_54 rfl rfl ?_
        refine a_iconst (pc := 55) F dX12_carry_55 kc_2 ?_
        obtain ⟨t8, ht8, hf⟩ := bd_some hf
        refine a_callV (pc := 56) (bs' := [bX12 y a0 t7]) (kb := 0) (j := 0) F [0] (c_X12_ofThing l D y ek n a0 _ _ _ _ ht8) (cwV 2 F.1.2.2.2.2 (gV q7_100 q7_102 qs_59 q1_11 q7_103) rfl rfl rfl (by decide +kernel) ⟨Nat.le_of_ble_eq_true rfl, Nat.le_of_ble_eq_true rfl⟩) rfl rfl rfl rfl (by decide) rfl rfl rfl rfl rfl rfl (Nat.le_of_ble_eq_true rfl) ⟨Nat.zero_le _, Nat.zero_le _⟩ dX12_carry_56 ?_
        refine a_istoren (pc := 59) (lv' := [(0, .ref (a0 0)), (1, .int x1), (2, .int x2), (3, .int t8)]) F [1, 2, 3, 0] dX12_carry_59 rfl (by decide) rfl ?_
        refine a_aloadn (pc := 60) (j := 0) F dX12_carry_60 rfl rfl ?_
        refine a_get (pc := 61) (kb := 0) (j := 0) (f := 1) F iW_X12 rfl rfl rfl (by decide) (tl q6_69) (fun _ h => h) rfl dX12_carry_61 ?_
        refine a_iloadn (pc := 64) (j := 1) F dX12_carry_64 rfl rfl ?_
        refine a_iconst (pc := 65) F dX12_carry_65 kc_2 ?_
        obtain ⟨t9, ht9, hf⟩ := bd_some hf
        refine a_callS (pc := 66) (bs' := [bX12 y a0 t7]) F [] (c_X12_thingAt l D y ek n  _ _ _ ht9) (va_cwS 2 F.1.2.2.2.2 (gS q7_4 q7_5 q1_11 q7_6) rfl rfl rfl (by decide +kernel) ⟨Nat.le_of_ble_eq_true rfl, Nat.le_of_ble_eq_true rfl⟩) (by decide) rfl rfl rfl rfl rfl rfl (Nat.le_of_ble_eq_true rfl) ⟨Nat.zero_le _, Nat.zero_le _⟩ dX12_carry_66 ?_
        refine a_iloadn (pc := 69) (j := 2) F dX12_carry_69 rfl rfl ?_
        obtain ⟨h10, hf⟩ := gd_some hf
        obtain ⟨u11, eu11, hf⟩ := nm_some hf
        refine a_iast (pc := 70) (kb := 0) (j := 1) (bs' := [bX12 y a0 u11]) F rfl rfl h10 (by rw [eu11]; rfl) dX12_carry_70 ?_
        refine a_aloadn (pc := 71) (j := 0) F dX12_carry_71 rfl rfl ?_
        refine a_iloadn (pc := 72) (j := 1) F dX12_carry_72 rfl rfl ?_
        refine a_iloadn (pc := 73) (j := 3) F dX12_carry_73 rfl rfl ?_
        refine a_iloadn (pc := 74) (j := 2) F dX12_carry_74 rfl rfl ?_
        refine a_iconst (pc := 75) F dX12_carry_75 kc_0 ?_
        obtain ⟨t12, ht12, hf⟩ := bd_some hf
        refine a_callVv (pc := 76) (bs' := [bX12 y a0 t12]) (kb := 0) (j := 0) F [0] (c_X12_tells l D y ek n a0 _ _ _ _ _ _ ht12) (cwV 4 F.1.2.2.2.2 (gV q7_207 q7_209 qs_80 q1_11 q7_210) rfl rfl rfl (by decide +kernel) ⟨Nat.le_of_ble_eq_true rfl, Nat.le_of_ble_eq_true rfl⟩) rfl rfl rfl rfl (by decide) rfl rfl rfl rfl rfl rfl (Nat.le_of_ble_eq_true rfl) ⟨Nat.zero_le _, Nat.zero_le _⟩ dX12_carry_76 ?_
        refine a_iloadn (pc := 79) (j := 3) F dX12_carry_79 rfl rfl ?_
        obtain rfl := Option.some.inj hf
        exact hret _ _ _ _ (Nat.zero_le _) (Nat.zero_le _) rfl dX12_carry_80
      · replace hf := it_neg h hf
        refine a_iconst (pc := 47) F dX12_carry_47 kc_0 ?_
        obtain rfl := Option.some.inj hf
        exact hret _ _ _ _ (Nat.zero_le _) (Nat.zero_le _) rfl dX12_carry_48
  · refine a_jn 22 (fun (t13 : Unit) => [(0, .ref (a0 0)), (1, .int x1), (2, .int x2)]) (fun (t13 : Unit) => [.ref (a0 0)]) (fun (t13 : Unit) => [bX12 y a0 u1]) hf (fun t13 hf => ?_) (fun K13 hK13 hf => ?_)
    · try dsimp only at hf ⊢
      refine a_iconst (pc := 22) F dX12_carry_22 kc_1 ?_
      refine a_goto (pc := 23) (tgt := 27) F dX12_carry_23 (by decide) ?_
      obtain rfl := Option.some.inj hf
      exact J3
    · try dsimp only at hf
      refine a_if_ne (pc := 11) (tgt := 22) F dX12_carry_11 (by decide) (fun h => ?_) (fun h => ?_)
      · replace hf := it_neg h hf
        exact hK13 () hf
      · replace hf := it_pos h hf
        refine a_aloadn (pc := 14) (j := 0) F dX12_carry_14 rfl rfl ?_
        refine a_iloadn (pc := 15) (j := 2) F dX12_carry_15 rfl rfl ?_
        obtain ⟨t14, ht14, hf⟩ := bd_some hf
        refine a_callV (pc := 16) (bs' := [bX12 y a0 u1]) (kb := 0) (j := 0) F [0] (c_X12_noHouse l D y ek n a0 _ _ _ ht14) (cwV 1 F.1.2.2.2.2 (gV q7_159 q7_161 qs_70 q1_11 q7_162) rfl rfl rfl (by decide +kernel) ⟨Nat.le_of_ble_eq_true rfl, Nat.le_of_ble_eq_true rfl⟩) rfl rfl rfl rfl (by decide) rfl rfl rfl rfl rfl rfl (Nat.le_of_ble_eq_true rfl) ⟨Nat.zero_le _, Nat.zero_le _⟩ dX12_carry_16 ?_
        refine a_if_eq (pc := 19) (tgt := 26) F dX12_carry_19 (by decide) (fun h => ?_) (fun h => ?_)
        · replace hf := it_pos h hf
          refine a_iconst (pc := 26) F dX12_carry_26 kc_0 ?_
          obtain rfl := Option.some.inj hf
          exact J3
        · replace hf := it_neg h hf
          exact hK13 () hf

abbrev wX12_guests : List Cond := Cond.code yX12_guests cX12_guests 4 (some .int) :: WALL
def m_X12_guests (n : Nat) (v0 : St) (x1 : Int32) (x2 : Int32) : Option (Int32 × St) :=
nm (su v0 0 0 0) (fun u1 =>
bd (m_X12_noHouse n u1 x1) (fun t2 =>
bd (m_X12_throwsIf n u1 t2 1) (fun t3 =>
(if t3.1 = 0 then
bd (m_X12_in n x2 0 9) (fun t4 =>
bd ((if t4 = 0 then
some 1
else
some 0)) (fun (t5 : Int32) =>
bd (m_X12_throwsIf n t3.2 t5 2) (fun t6 =>
(if t6.1 = 0 then
bd (m_X12_remembers n t6.2) (fun t7 =>
bd (m_X12_of n t7 x1 1) (fun t8 =>
bd (m_X12_houseAt n x1 1) (fun t9 =>
(if ix t9 2080 then nm (su t7 1 (t9).toNatClampNeg x2) (fun u11 =>
some (t8, u11)) else none))))
else
some (0, t6.2)))))
else
some (0, t3.2)))))
set_option maxHeartbeats 4000000 in
set_option maxRecDepth 100000 in
theorem c_X12_guests (l : Launch) (D : va_G) (y : Nat → ClassId) (ek : EK) (n : Nat) (a0 : Nat → Nat) (v0 : St) (x1 : Int32) (x2 : Int32) (res : Int32 × St) (hf : m_X12_guests n v0 x1 x2 = some res) : CI l yX12_guests wX12_guests { frames := 3, cells := 0, slots := 0, locals := 61 } D y ek [.ref (a0 0), .int x1, .int x2] [bX12 y a0 v0] (res.1) [bX12 y a0 res.2] 0 0 := by
  unfold m_X12_guests at hf
  refine ci_of (cc := cX12_guests) (maxL := 4) (by decide) rfl rfl (Nat.le_of_ble_eq_true rfl) ?_
  intro p e s m below meth c Q A F hret
  refine a_lv (lv' := [(0, .ref (a0 0)), (1, .int x1), (2, .int x2)]) rfl ?_
  refine a_aloadn (pc := 0) (j := 0) F dX12_guests_0 rfl rfl ?_
  refine a_iconst (pc := 1) F dX12_guests_1 kc_0 ?_
  obtain ⟨u1, eu1, hf⟩ := nm_some hf
  refine a_put (pc := 2) (kb := 0) (j := 0) (f := 0) (ty := .int) (bs' := [bX12 y a0 u1]) F iW_X12 rfl rfl rfl (by decide) (tl q6_68) (fun _ h => h) tyX12 tyX12_ok nmX12 rfl rfl rfl rfl (Nat.le_of_ble_eq_true rfl) (by rw [eu1]; rfl) dX12_guests_2 ?_
  refine a_aloadn (pc := 5) (j := 0) F dX12_guests_5 rfl rfl ?_
  refine a_aloadn (pc := 6) (j := 0) F dX12_guests_6 rfl rfl ?_
  refine a_iloadn (pc := 7) (j := 1) F dX12_guests_7 rfl rfl ?_
  obtain ⟨t2, ht2, hf⟩ := bd_some hf
  refine a_callV (pc := 8) (bs' := [bX12 y a0 u1]) (kb := 0) (j := 0) F [0] (c_X12_noHouse l D y ek n a0 _ _ _ ht2) (cwV 1 F.1.2.2.2.2 (gV q7_159 q7_161 qs_70 q1_11 q7_162) rfl rfl rfl (by decide +kernel) ⟨Nat.le_of_ble_eq_true rfl, Nat.le_of_ble_eq_true rfl⟩) rfl rfl rfl rfl (by decide) rfl rfl rfl rfl rfl rfl (Nat.le_of_ble_eq_true rfl) ⟨Nat.zero_le _, Nat.zero_le _⟩ dX12_guests_8 ?_
  refine a_iconst (pc := 11) F dX12_guests_11 kc_1 ?_
  obtain ⟨t3, ht3, hf⟩ := bd_some hf
  refine a_callV (pc := 12) (bs' := [bX12 y a0 t3.2]) (kb := 0) (j := 0) F [0] (c_X12_throwsIf l D y ek n a0 _ _ _ _ ht3) (cwV 2 F.1.2.2.2.2 (gV q7_61 q7_63 qs_52 q1_11 q7_64) rfl rfl rfl (by decide +kernel) ⟨Nat.le_of_ble_eq_true rfl, Nat.le_of_ble_eq_true rfl⟩) rfl rfl rfl rfl (by decide) rfl rfl rfl rfl rfl rfl (Nat.le_of_ble_eq_true rfl) ⟨Nat.zero_le _, Nat.zero_le _⟩ dX12_guests_12 ?_
  refine a_if_ne (pc := 15) (tgt := 41) F dX12_guests_15 (by decide) (fun h => ?_) (fun h => ?_)
  · replace hf := it_neg h hf
    refine a_iconst (pc := 41) F dX12_guests_41 kc_0 ?_
    obtain rfl := Option.some.inj hf
    exact hret _ _ _ _ (Nat.zero_le _) (Nat.zero_le _) rfl dX12_guests_42
  · replace hf := it_pos h hf
    refine a_aloadn (pc := 18) (j := 0) F dX12_guests_18 rfl rfl ?_
    refine a_iloadn (pc := 19) (j := 2) F dX12_guests_19 rfl rfl ?_
    refine a_iconst (pc := 20) F dX12_guests_20 kc_0 ?_
    refine a_bipush (pc := 21) F dX12_guests_21 kb_9 ?_
    obtain ⟨t4, ht4, hf⟩ := bd_some hf
    refine a_callS (pc := 23) (bs' := [bX12 y a0 t3.2]) F [] (c_X12_in l D y ek n  _ _ _ _ ht4) (va_cwS 3 F.1.2.2.2.2 (gS q7_77 q7_78 q1_11 q7_79) rfl rfl rfl (by decide +kernel) ⟨Nat.le_of_ble_eq_true rfl, Nat.le_of_ble_eq_true rfl⟩) (by decide) rfl rfl rfl rfl rfl rfl (Nat.le_of_ble_eq_true rfl) ⟨Nat.zero_le _, Nat.zero_le _⟩ dX12_guests_23 ?_
    refine a_join 34 (fun (t5 : Int32) => [(0, .ref (a0 0)), (1, .int x1), (2, .int x2)]) (fun (t5 : Int32) => [.int t5, .ref (a0 0)]) (fun (t5 : Int32) => [bX12 y a0 t3.2]) hf (fun t5 hf => ?_) (fun t5 hf J5 => ?_)
    · try dsimp only at hf ⊢
      refine a_iconst (pc := 34) F dX12_guests_34 kc_2 ?_
      obtain ⟨t6, ht6, hf⟩ := bd_some hf
      refine a_callV (pc := 35) (bs' := [bX12 y a0 t6.2]) (kb := 0) (j := 0) F [0] (c_X12_throwsIf l D y ek n a0 _ _ _ _ ht6) (cwV 2 F.1.2.2.2.2 (gV q7_61 q7_63 qs_52 q1_11 q7_64) rfl rfl rfl (by decide +kernel) ⟨Nat.le_of_ble_eq_true rfl, Nat.le_of_ble_eq_true rfl⟩) rfl rfl rfl rfl (by decide) rfl rfl rfl rfl rfl rfl (Nat.le_of_ble_eq_true rfl) ⟨Nat.zero_le _, Nat.zero_le _⟩ dX12_guests_35 ?_
      refine a_if_eq (pc := 38) (tgt := 43) F dX12_guests_38 (by decide) (fun h => ?_) (fun h => ?_)
      · replace hf := it_pos h hf
        refine a_aloadn (pc := 43) (j := 0) F dX12_guests_43 rfl rfl ?_
        obtain ⟨t7, ht7, hf⟩ := bd_some hf
        refine a_callVv (pc := 44) (bs' := [bX12 y a0 t7]) (kb := 0) (j := 0) F [0] (c_X12_remembers l D y ek n a0 _ _ ht7) (cwV 0 F.1.2.2.2.2 (gV q7_203 q7_205 qs_79 q1_11 q7_206) rfl rfl rfl (by decide +kernel) ⟨Nat.le_of_ble_eq_true rfl, Nat.le_of_ble_eq_true rfl⟩) rfl rfl rfl rfl (by decide) rfl rfl rfl rfl rfl rfl (Nat.le_of_ble_eq_true rfl) ⟨Nat.zero_le _, Nat.zero_le _⟩ dX12_guests_44 ?_
        refine a_aloadn (pc := 47) (j := 0) F dX12_guests_47 rfl rfl ?_
        refine a_iloadn (pc := 48) (j := 1) F dX12_guests_48 rfl rfl ?_
        refine a_iconst (pc := 49) F dX12_guests_49 kc_1 ?_
        obtain ⟨t8, ht8, hf⟩ := bd_some hf
        refine a_callV (pc := 50) (bs' := [bX12 y a0 t7]) (kb := 0) (j := 0) F [0] (c_X12_of l D y ek n a0 _ _ _ _ ht8) (cwV 2 F.1.2.2.2.2 (gV q7_111 q7_113 qs_61 q1_11 q7_114) rfl rfl rfl (by decide +kernel) ⟨Nat.le_of_ble_eq_true rfl, Nat.le_of_ble_eq_true rfl⟩) rfl rfl rfl rfl (by decide) rfl rfl rfl rfl rfl rfl (Nat.le_of_ble_eq_true rfl) ⟨Nat.zero_le _, Nat.zero_le _⟩ dX12_guests_50 ?_
        refine a_istoren (pc := 53) (lv' := [(0, .ref (a0 0)), (1, .int x1), (2, .int x2), (3, .int t8)]) F [1, 2, 3, 0] dX12_guests_53 rfl (by decide) rfl ?_
        refine a_aloadn (pc := 54) (j := 0) F dX12_guests_54 rfl rfl ?_
        refine a_get (pc := 55) (kb := 0) (j := 0) (f := 1) F iW_X12 rfl rfl rfl (by decide) (tl q6_69) (fun _ h => h) rfl dX12_guests_55 ?_
        refine a_iloadn (pc := 58) (j := 1) F dX12_guests_58 rfl rfl ?_
        refine a_iconst (pc := 59) F dX12_guests_59 kc_1 ?_
        obtain ⟨t9, ht9, hf⟩ := bd_some hf
        refine a_callS (pc := 60) (bs' := [bX12 y a0 t7]) F [] (c_X12_houseAt l D y ek n  _ _ _ ht9) (va_cwS 2 F.1.2.2.2.2 (gS q6_212 q6_213 q1_11 q6_214) rfl rfl rfl (by decide +kernel) ⟨Nat.le_of_ble_eq_true rfl, Nat.le_of_ble_eq_true rfl⟩) (by decide) rfl rfl rfl rfl rfl rfl (Nat.le_of_ble_eq_true rfl) ⟨Nat.zero_le _, Nat.zero_le _⟩ dX12_guests_60 ?_
        refine a_iloadn (pc := 63) (j := 2) F dX12_guests_63 rfl rfl ?_
        obtain ⟨h10, hf⟩ := gd_some hf
        obtain ⟨u11, eu11, hf⟩ := nm_some hf
        refine a_iast (pc := 64) (kb := 0) (j := 1) (bs' := [bX12 y a0 u11]) F rfl rfl h10 (by rw [eu11]; rfl) dX12_guests_64 ?_
        refine a_iloadn (pc := 65) (j := 3) F dX12_guests_65 rfl rfl ?_
        obtain rfl := Option.some.inj hf
        exact hret _ _ _ _ (Nat.zero_le _) (Nat.zero_le _) rfl dX12_guests_66
      · replace hf := it_neg h hf
        refine a_iconst (pc := 41) F dX12_guests_41 kc_0 ?_
        obtain rfl := Option.some.inj hf
        exact hret _ _ _ _ (Nat.zero_le _) (Nat.zero_le _) rfl dX12_guests_42
    · refine a_if_ne (pc := 26) (tgt := 33) F dX12_guests_26 (by decide) (fun h => ?_) (fun h => ?_)
      · replace hf := it_neg h hf
        refine a_iconst (pc := 33) F dX12_guests_33 kc_0 ?_
        obtain rfl := Option.some.inj hf
        exact J5
      · replace hf := it_pos h hf
        refine a_iconst (pc := 29) F dX12_guests_29 kc_1 ?_
        refine a_goto (pc := 30) (tgt := 34) F dX12_guests_30 (by decide) ?_
        obtain rfl := Option.some.inj hf
        exact J5

abbrev wX12_prop : List Cond := Cond.code yX12_prop cX12_prop 4 (some .boolean) :: WALL
def m_X12_prop (n : Nat) (v0 : St) (x1 : Int32) (x2 : Int32) : Option (Int32 × St) :=
nm (su v0 0 0 0) (fun u1 =>
bd (m_X12_noPlank n u1 x1) (fun t2 =>
bd (m_X12_throwsIf n u1 t2 1) (fun t3 =>
(if t3.1 = 0 then
bd (m_X12_remembers n t3.2) (fun t4 =>
bd (m_X12_isPropped n t4 x1) (fun t5 =>
bd (m_X12_plankAt n x1 2) (fun t6 =>
bd ((if x2 = 0 then
some 0
else
some 1)) (fun (t7 : Int32) =>
(if ix t6 2080 then nm (su t4 1 (t6).toNatClampNeg t7) (fun u9 =>
(if t5 = x2 then
some (0, u9)
else
some (1, u9))) else none)))))
else
some (0, t3.2)))))
set_option maxHeartbeats 4000000 in
set_option maxRecDepth 100000 in
theorem c_X12_prop (l : Launch) (D : va_G) (y : Nat → ClassId) (ek : EK) (n : Nat) (a0 : Nat → Nat) (v0 : St) (x1 : Int32) (x2 : Int32) (res : Int32 × St) (hf : m_X12_prop n v0 x1 x2 = some res) : CI l yX12_prop wX12_prop { frames := 3, cells := 0, slots := 0, locals := 64 } D y ek [.ref (a0 0), .int x1, .int x2] [bX12 y a0 v0] (res.1) [bX12 y a0 res.2] 0 0 := by
  unfold m_X12_prop at hf
  refine ci_of (cc := cX12_prop) (maxL := 4) (by decide) rfl rfl (Nat.le_of_ble_eq_true rfl) ?_
  intro p e s m below meth c Q A F hret
  refine a_lv (lv' := [(0, .ref (a0 0)), (1, .int x1), (2, .int x2)]) rfl ?_
  refine a_aloadn (pc := 0) (j := 0) F dX12_prop_0 rfl rfl ?_
  refine a_iconst (pc := 1) F dX12_prop_1 kc_0 ?_
  obtain ⟨u1, eu1, hf⟩ := nm_some hf
  refine a_put (pc := 2) (kb := 0) (j := 0) (f := 0) (ty := .int) (bs' := [bX12 y a0 u1]) F iW_X12 rfl rfl rfl (by decide) (tl q6_68) (fun _ h => h) tyX12 tyX12_ok nmX12 rfl rfl rfl rfl (Nat.le_of_ble_eq_true rfl) (by rw [eu1]; rfl) dX12_prop_2 ?_
  refine a_aloadn (pc := 5) (j := 0) F dX12_prop_5 rfl rfl ?_
  refine a_aloadn (pc := 6) (j := 0) F dX12_prop_6 rfl rfl ?_
  refine a_iloadn (pc := 7) (j := 1) F dX12_prop_7 rfl rfl ?_
  obtain ⟨t2, ht2, hf⟩ := bd_some hf
  refine a_callV (pc := 8) (bs' := [bX12 y a0 u1]) (kb := 0) (j := 0) F [0] (c_X12_noPlank l D y ek n a0 _ _ _ ht2) (cwV 1 F.1.2.2.2.2 (gV q7_73 q7_75 qs_53 q1_11 q7_76) rfl rfl rfl (by decide +kernel) ⟨Nat.le_of_ble_eq_true rfl, Nat.le_of_ble_eq_true rfl⟩) rfl rfl rfl rfl (by decide) rfl rfl rfl rfl rfl rfl (Nat.le_of_ble_eq_true rfl) ⟨Nat.zero_le _, Nat.zero_le _⟩ dX12_prop_8 ?_
  refine a_iconst (pc := 11) F dX12_prop_11 kc_1 ?_
  obtain ⟨t3, ht3, hf⟩ := bd_some hf
  refine a_callV (pc := 12) (bs' := [bX12 y a0 t3.2]) (kb := 0) (j := 0) F [0] (c_X12_throwsIf l D y ek n a0 _ _ _ _ ht3) (cwV 2 F.1.2.2.2.2 (gV q7_61 q7_63 qs_52 q1_11 q7_64) rfl rfl rfl (by decide +kernel) ⟨Nat.le_of_ble_eq_true rfl, Nat.le_of_ble_eq_true rfl⟩) rfl rfl rfl rfl (by decide) rfl rfl rfl rfl rfl rfl (Nat.le_of_ble_eq_true rfl) ⟨Nat.zero_le _, Nat.zero_le _⟩ dX12_prop_12 ?_
  refine a_if_eq (pc := 15) (tgt := 20) F dX12_prop_15 (by decide) (fun h => ?_) (fun h => ?_)
  · replace hf := it_pos h hf
    refine a_aloadn (pc := 20) (j := 0) F dX12_prop_20 rfl rfl ?_
    obtain ⟨t4, ht4, hf⟩ := bd_some hf
    refine a_callVv (pc := 21) (bs' := [bX12 y a0 t4]) (kb := 0) (j := 0) F [0] (c_X12_remembers l D y ek n a0 _ _ ht4) (cwV 0 F.1.2.2.2.2 (gV q7_203 q7_205 qs_79 q1_11 q7_206) rfl rfl rfl (by decide +kernel) ⟨Nat.le_of_ble_eq_true rfl, Nat.le_of_ble_eq_true rfl⟩) rfl rfl rfl rfl (by decide) rfl rfl rfl rfl rfl rfl (Nat.le_of_ble_eq_true rfl) ⟨Nat.zero_le _, Nat.zero_le _⟩ dX12_prop_21 ?_
    refine a_aloadn (pc := 24) (j := 0) F dX12_prop_24 rfl rfl ?_
    refine a_iloadn (pc := 25) (j := 1) F dX12_prop_25 rfl rfl ?_
    obtain ⟨t5, ht5, hf⟩ := bd_some hf
    refine a_callV (pc := 26) (bs' := [bX12 y a0 t4]) (kb := 0) (j := 0) F [0] (c_X12_isPropped l D y ek n a0 _ _ _ ht5) (cwV 1 F.1.2.2.2.2 (gV q7_84 q7_86 qs_55 q1_11 q7_87) rfl rfl rfl (by decide +kernel) ⟨Nat.le_of_ble_eq_true rfl, Nat.le_of_ble_eq_true rfl⟩) rfl rfl rfl rfl (by decide) rfl rfl rfl rfl rfl rfl (Nat.le_of_ble_eq_true rfl) ⟨Nat.zero_le _, Nat.zero_le _⟩ dX12_prop_26 ?_
    refine a_istoren (pc := 29) (lv' := [(0, .ref (a0 0)), (1, .int x1), (2, .int x2), (3, .int t5)]) F [1, 2, 3, 0] dX12_prop_29 rfl (by decide) rfl ?_
    refine a_aloadn (pc := 30) (j := 0) F dX12_prop_30 rfl rfl ?_
    refine a_get (pc := 31) (kb := 0) (j := 0) (f := 1) F iW_X12 rfl rfl rfl (by decide) (tl q6_69) (fun _ h => h) rfl dX12_prop_31 ?_
    refine a_iloadn (pc := 34) (j := 1) F dX12_prop_34 rfl rfl ?_
    refine a_iconst (pc := 35) F dX12_prop_35 kc_2 ?_
    obtain ⟨t6, ht6, hf⟩ := bd_some hf
    refine a_callS (pc := 36) (bs' := [bX12 y a0 t4]) F [] (c_X12_plankAt l D y ek n  _ _ _ ht6) (va_cwS 2 F.1.2.2.2.2 (gS q6_209 q6_210 q1_11 q6_211) rfl rfl rfl (by decide +kernel) ⟨Nat.le_of_ble_eq_true rfl, Nat.le_of_ble_eq_true rfl⟩) (by decide) rfl rfl rfl rfl rfl rfl (Nat.le_of_ble_eq_true rfl) ⟨Nat.zero_le _, Nat.zero_le _⟩ dX12_prop_36 ?_
    refine a_iloadn (pc := 39) (j := 2) F dX12_prop_39 rfl rfl ?_
    refine a_join 48 (fun (t7 : Int32) => [(2, .int x2), (3, .int t5)]) (fun (t7 : Int32) => [.int t7, .int t6, .ref (a0 2)]) (fun (t7 : Int32) => [bX12 y a0 t4]) hf (fun t7 hf => ?_) (fun t7 hf J7 => ?_)
    · try dsimp only at hf ⊢
      obtain ⟨h8, hf⟩ := gd_some hf
      obtain ⟨u9, eu9, hf⟩ := nm_some hf
      refine a_iast (pc := 48) (kb := 0) (j := 1) (bs' := [bX12 y a0 u9]) F rfl rfl h8 (by rw [eu9]; rfl) dX12_prop_48 ?_
      refine a_iloadn (pc := 49) (j := 1) F dX12_prop_49 rfl rfl ?_
      refine a_iloadn (pc := 50) (j := 0) F dX12_prop_50 rfl rfl ?_
      refine a_icmp_eq (pc := 51) (tgt := 58) F dX12_prop_51 (by decide) (fun h => ?_) (fun h => ?_)
      · replace hf := it_pos h hf
        refine a_iconst (pc := 58) F dX12_prop_58 kc_0 ?_
        obtain rfl := Option.some.inj hf
        exact hret _ _ _ _ (Nat.zero_le _) (Nat.zero_le _) (z_nar (Or.inl rfl)) dX12_prop_59
      · replace hf := it_neg h hf
        refine a_iconst (pc := 54) F dX12_prop_54 kc_1 ?_
        refine a_goto (pc := 55) (tgt := 59) F dX12_prop_55 (by decide) ?_
        obtain rfl := Option.some.inj hf
        exact hret _ _ _ _ (Nat.zero_le _) (Nat.zero_le _) (z_nar (Or.inr rfl)) dX12_prop_59
    · refine a_if_eq (pc := 40) (tgt := 47) F dX12_prop_40 (by decide) (fun h => ?_) (fun h => ?_)
      · replace hf := it_pos h hf
        refine a_iconst (pc := 47) F dX12_prop_47 kc_0 ?_
        refine a_sub [2, 3] rfl ?_
        obtain rfl := Option.some.inj hf
        exact J7
      · replace hf := it_neg h hf
        refine a_iconst (pc := 43) F dX12_prop_43 kc_1 ?_
        refine a_goto (pc := 44) (tgt := 48) F dX12_prop_44 (by decide) ?_
        refine a_sub [2, 3] rfl ?_
        obtain rfl := Option.some.inj hf
        exact J7
  · replace hf := it_neg h hf
    refine a_iconst (pc := 18) F dX12_prop_18 kc_0 ?_
    obtain rfl := Option.some.inj hf
    exact hret _ _ _ _ (Nat.zero_le _) (Nat.zero_le _) (z_nar (Or.inl rfl)) dX12_prop_19

abbrev wX12_mend : List Cond := Cond.code yX12_mend cX12_mend 3 (some .int) :: WALL
def m_X12_mend (n : Nat) (v0 : St) (x1 : Int32) : Option (Int32 × St) :=
nm (su v0 0 0 0) (fun u1 =>
bd (m_X12_noPlank n u1 x1) (fun t2 =>
bd (m_X12_throwsIf n u1 t2 1) (fun t3 =>
(if t3.1 = 0 then
bd (m_X12_isBroken n t3.2 x1) (fun t4 =>
bd ((if t4 = 0 then
some 1
else
some 0)) (fun (t5 : Int32) =>
bd (m_X12_throwsIf n t3.2 t5 2) (fun t6 =>
(if t6.1 = 0 then
bd (m_X12_remembers n t6.2) (fun t7 =>
bd (m_X12_ofPlank n t7 x1 1) (fun t8 =>
bd (m_X12_plankAt n x1 1) (fun t9 =>
(if ix t9 2080 then nm (su t7 1 (t9).toNatClampNeg 0) (fun u11 =>
bd (m_X12_plankAt n x1 3) (fun t12 =>
(if ix t12 2080 then nm (su u11 1 (t12).toNatClampNeg 0) (fun u14 =>
some (t8, u14)) else none))) else none))))
else
some (0, t6.2)))))
else
some (0, t3.2)))))
set_option maxHeartbeats 4000000 in
set_option maxRecDepth 100000 in
theorem c_X12_mend (l : Launch) (D : va_G) (y : Nat → ClassId) (ek : EK) (n : Nat) (a0 : Nat → Nat) (v0 : St) (x1 : Int32) (res : Int32 × St) (hf : m_X12_mend n v0 x1 = some res) : CI l yX12_mend wX12_mend { frames := 3, cells := 0, slots := 0, locals := 64 } D y ek [.ref (a0 0), .int x1] [bX12 y a0 v0] (res.1) [bX12 y a0 res.2] 0 0 := by
  unfold m_X12_mend at hf
  refine ci_of (cc := cX12_mend) (maxL := 3) (by decide) rfl rfl (Nat.le_of_ble_eq_true rfl) ?_
  intro p e s m below meth c Q A F hret
  refine a_lv (lv' := [(0, .ref (a0 0)), (1, .int x1)]) rfl ?_
  refine a_aloadn (pc := 0) (j := 0) F dX12_mend_0 rfl rfl ?_
  refine a_iconst (pc := 1) F dX12_mend_1 kc_0 ?_
  obtain ⟨u1, eu1, hf⟩ := nm_some hf
  refine a_put (pc := 2) (kb := 0) (j := 0) (f := 0) (ty := .int) (bs' := [bX12 y a0 u1]) F iW_X12 rfl rfl rfl (by decide) (tl q6_68) (fun _ h => h) tyX12 tyX12_ok nmX12 rfl rfl rfl rfl (Nat.le_of_ble_eq_true rfl) (by rw [eu1]; rfl) dX12_mend_2 ?_
  refine a_aloadn (pc := 5) (j := 0) F dX12_mend_5 rfl rfl ?_
  refine a_aloadn (pc := 6) (j := 0) F dX12_mend_6 rfl rfl ?_
  refine a_iloadn (pc := 7) (j := 1) F dX12_mend_7 rfl rfl ?_
  obtain ⟨t2, ht2, hf⟩ := bd_some hf
  refine a_callV (pc := 8) (bs' := [bX12 y a0 u1]) (kb := 0) (j := 0) F [0] (c_X12_noPlank l D y ek n a0 _ _ _ ht2) (cwV 1 F.1.2.2.2.2 (gV q7_73 q7_75 qs_53 q1_11 q7_76) rfl rfl rfl (by decide +kernel) ⟨Nat.le_of_ble_eq_true rfl, Nat.le_of_ble_eq_true rfl⟩) rfl rfl rfl rfl (by decide) rfl rfl rfl rfl rfl rfl (Nat.le_of_ble_eq_true rfl) ⟨Nat.zero_le _, Nat.zero_le _⟩ dX12_mend_8 ?_
  refine a_iconst (pc := 11) F dX12_mend_11 kc_1 ?_
  obtain ⟨t3, ht3, hf⟩ := bd_some hf
  refine a_callV (pc := 12) (bs' := [bX12 y a0 t3.2]) (kb := 0) (j := 0) F [0] (c_X12_throwsIf l D y ek n a0 _ _ _ _ ht3) (cwV 2 F.1.2.2.2.2 (gV q7_61 q7_63 qs_52 q1_11 q7_64) rfl rfl rfl (by decide +kernel) ⟨Nat.le_of_ble_eq_true rfl, Nat.le_of_ble_eq_true rfl⟩) rfl rfl rfl rfl (by decide) rfl rfl rfl rfl rfl rfl (Nat.le_of_ble_eq_true rfl) ⟨Nat.zero_le _, Nat.zero_le _⟩ dX12_mend_12 ?_
  refine a_if_ne (pc := 15) (tgt := 39) F dX12_mend_15 (by decide) (fun h => ?_) (fun h => ?_)
  · replace hf := it_neg h hf
    refine a_iconst (pc := 39) F dX12_mend_39 kc_0 ?_
    obtain rfl := Option.some.inj hf
    exact hret _ _ _ _ (Nat.zero_le _) (Nat.zero_le _) rfl dX12_mend_40
  · replace hf := it_pos h hf
    refine a_aloadn (pc := 18) (j := 0) F dX12_mend_18 rfl rfl ?_
    refine a_aloadn (pc := 19) (j := 0) F dX12_mend_19 rfl rfl ?_
    refine a_iloadn (pc := 20) (j := 1) F dX12_mend_20 rfl rfl ?_
    obtain ⟨t4, ht4, hf⟩ := bd_some hf
    refine a_callV (pc := 21) (bs' := [bX12 y a0 t3.2]) (kb := 0) (j := 0) F [0] (c_X12_isBroken l D y ek n a0 _ _ _ ht4) (cwV 1 F.1.2.2.2.2 (gV q7_125 q7_127 qs_64 q1_11 q7_128) rfl rfl rfl (by decide +kernel) ⟨Nat.le_of_ble_eq_true rfl, Nat.le_of_ble_eq_true rfl⟩) rfl rfl rfl rfl (by decide) rfl rfl rfl rfl rfl rfl (Nat.le_of_ble_eq_true rfl) ⟨Nat.zero_le _, Nat.zero_le _⟩ dX12_mend_21 ?_
    refine a_join 32 (fun (t5 : Int32) => [(0, .ref (a0 0)), (1, .int x1)]) (fun (t5 : Int32) => [.int t5, .ref (a0 0)]) (fun (t5 : Int32) => [bX12 y a0 t3.2]) hf (fun t5 hf => ?_) (fun t5 hf J5 => ?_)
    · try dsimp only at hf ⊢
      refine a_iconst (pc := 32) F dX12_mend_32 kc_2 ?_
      obtain ⟨t6, ht6, hf⟩ := bd_some hf
      refine a_callV (pc := 33) (bs' := [bX12 y a0 t6.2]) (kb := 0) (j := 0) F [0] (c_X12_throwsIf l D y ek n a0 _ _ _ _ ht6) (cwV 2 F.1.2.2.2.2 (gV q7_61 q7_63 qs_52 q1_11 q7_64) rfl rfl rfl (by decide +kernel) ⟨Nat.le_of_ble_eq_true rfl, Nat.le_of_ble_eq_true rfl⟩) rfl rfl rfl rfl (by decide) rfl rfl rfl rfl rfl rfl (Nat.le_of_ble_eq_true rfl) ⟨Nat.zero_le _, Nat.zero_le _⟩ dX12_mend_33 ?_
      refine a_if_eq (pc := 36) (tgt := 41) F dX12_mend_36 (by decide) (fun h => ?_) (fun h => ?_)
      · replace hf := it_pos h hf
        refine a_aloadn (pc := 41) (j := 0) F dX12_mend_41 rfl rfl ?_
        obtain ⟨t7, ht7, hf⟩ := bd_some hf
        refine a_callVv (pc := 42) (bs' := [bX12 y a0 t7]) (kb := 0) (j := 0) F [0] (c_X12_remembers l D y ek n a0 _ _ ht7) (cwV 0 F.1.2.2.2.2 (gV q7_203 q7_205 qs_79 q1_11 q7_206) rfl rfl rfl (by decide +kernel) ⟨Nat.le_of_ble_eq_true rfl, Nat.le_of_ble_eq_true rfl⟩) rfl rfl rfl rfl (by decide) rfl rfl rfl rfl rfl rfl (Nat.le_of_ble_eq_true rfl) ⟨Nat.zero_le _, Nat.zero_le _⟩ dX12_mend_42 ?_
        refine a_aloadn (pc := 45) (j := 0) F dX12_mend_45 rfl rfl ?_
        refine a_iloadn (pc := 46) (j := 1) F dX12_mend_46 rfl rfl ?_
        refine a_iconst (pc := 47) F dX12_mend_47 kc_1 ?_
        obtain ⟨t8, ht8, hf⟩ := bd_some hf
        refine a_callV (pc := 48) (bs' := [bX12 y a0 t7]) (kb := 0) (j := 0) F [0] (c_X12_ofPlank l D y ek n a0 _ _ _ _ ht8) (cwV 2 F.1.2.2.2.2 (gV q7_88 q7_90 qs_56 q1_11 q7_91) rfl rfl rfl (by decide +kernel) ⟨Nat.le_of_ble_eq_true rfl, Nat.le_of_ble_eq_true rfl⟩) rfl rfl rfl rfl (by decide) rfl rfl rfl rfl rfl rfl (Nat.le_of_ble_eq_true rfl) ⟨Nat.zero_le _, Nat.zero_le _⟩ dX12_mend_48 ?_
        refine a_istoren (pc := 51) (lv' := [(0, .ref (a0 0)), (1, .int x1), (2, .int t8)]) F [1, 2, 0] dX12_mend_51 rfl (by decide) rfl ?_
        refine a_aloadn (pc := 52) (j := 0) F dX12_mend_52 rfl rfl ?_
        refine a_get (pc := 53) (kb := 0) (j := 0) (f := 1) F iW_X12 rfl rfl rfl (by decide) (tl q6_69) (fun _ h => h) rfl dX12_mend_53 ?_
        refine a_iloadn (pc := 56) (j := 1) F dX12_mend_56 rfl rfl ?_
        refine a_iconst (pc := 57) F dX12_mend_57 kc_1 ?_
        obtain ⟨t9, ht9, hf⟩ := bd_some hf
        refine a_callS (pc := 58) (bs' := [bX12 y a0 t7]) F [] (c_X12_plankAt l D y ek n  _ _ _ ht9) (va_cwS 2 F.1.2.2.2.2 (gS q6_209 q6_210 q1_11 q6_211) rfl rfl rfl (by decide +kernel) ⟨Nat.le_of_ble_eq_true rfl, Nat.le_of_ble_eq_true rfl⟩) (by decide) rfl rfl rfl rfl rfl rfl (Nat.le_of_ble_eq_true rfl) ⟨Nat.zero_le _, Nat.zero_le _⟩ dX12_mend_58 ?_
        refine a_iconst (pc := 61) F dX12_mend_61 kc_0 ?_
        obtain ⟨h10, hf⟩ := gd_some hf
        obtain ⟨u11, eu11, hf⟩ := nm_some hf
        refine a_iast (pc := 62) (kb := 0) (j := 1) (bs' := [bX12 y a0 u11]) F rfl rfl h10 (by rw [eu11]; rfl) dX12_mend_62 ?_
        refine a_aloadn (pc := 63) (j := 0) F dX12_mend_63 rfl rfl ?_
        refine a_get (pc := 64) (kb := 0) (j := 0) (f := 1) F iW_X12 rfl rfl rfl (by decide) (tl q6_69) (fun _ h => h) rfl dX12_mend_64 ?_
        refine a_iloadn (pc := 67) (j := 1) F dX12_mend_67 rfl rfl ?_
        refine a_iconst (pc := 68) F dX12_mend_68 kc_3 ?_
        obtain ⟨t12, ht12, hf⟩ := bd_some hf
        refine a_callS (pc := 69) (bs' := [bX12 y a0 u11]) F [] (c_X12_plankAt l D y ek n  _ _ _ ht12) (va_cwS 2 F.1.2.2.2.2 (gS q6_209 q6_210 q1_11 q6_211) rfl rfl rfl (by decide +kernel) ⟨Nat.le_of_ble_eq_true rfl, Nat.le_of_ble_eq_true rfl⟩) (by decide) rfl rfl rfl rfl rfl rfl (Nat.le_of_ble_eq_true rfl) ⟨Nat.zero_le _, Nat.zero_le _⟩ dX12_mend_69 ?_
        refine a_iconst (pc := 72) F dX12_mend_72 kc_0 ?_
        obtain ⟨h13, hf⟩ := gd_some hf
        obtain ⟨u14, eu14, hf⟩ := nm_some hf
        refine a_iast (pc := 73) (kb := 0) (j := 1) (bs' := [bX12 y a0 u14]) F rfl rfl h13 (by rw [eu14]; rfl) dX12_mend_73 ?_
        refine a_iloadn (pc := 74) (j := 2) F dX12_mend_74 rfl rfl ?_
        obtain rfl := Option.some.inj hf
        exact hret _ _ _ _ (Nat.zero_le _) (Nat.zero_le _) rfl dX12_mend_75
      · replace hf := it_neg h hf
        refine a_iconst (pc := 39) F dX12_mend_39 kc_0 ?_
        obtain rfl := Option.some.inj hf
        exact hret _ _ _ _ (Nat.zero_le _) (Nat.zero_le _) rfl dX12_mend_40
    · refine a_if_ne (pc := 24) (tgt := 31) F dX12_mend_24 (by decide) (fun h => ?_) (fun h => ?_)
      · replace hf := it_neg h hf
        refine a_iconst (pc := 31) F dX12_mend_31 kc_0 ?_
        obtain rfl := Option.some.inj hf
        exact J5
      · replace hf := it_pos h hf
        refine a_iconst (pc := 27) F dX12_mend_27 kc_1 ?_
        refine a_goto (pc := 28) (tgt := 32) F dX12_mend_28 (by decide) ?_
        obtain rfl := Option.some.inj hf
        exact J5

abbrev wX12_give : List Cond := Cond.code yX12_give cX12_give 4 (some .int) :: WALL
def m_X12_give (n : Nat) (v0 : St) (x1 : Int32) (x2 : Int32) (x3 : Int32) : Option (Int32 × St) :=
nm (su v0 0 0 0) (fun u1 =>
bd (m_X12_noHouse n u1 x1) (fun t2 =>
bd (jn (fun (t20 : Unit) =>
some 1) (fun (K20 : Unit → Option (Int32)) =>
(if t2 = 0 then
bd (m_X12_noHouse n u1 x2) (fun t21 =>
(if t21 = 0 then
some 0
else
K20 ()))
else
K20 ()))) (fun (t3 : Int32) =>
bd (m_X12_throwsIf n u1 t3 1) (fun t4 =>
(if t4.1 = 0 then
bd (jn (fun (t17 : Unit) =>
some 1) (fun (K17 : Unit → Option (Int32)) =>
(if x1 = x2 then
K17 ()
else
bd (m_X12_of n t4.2 x1 0) (fun t18 =>
bd (m_X12_in n x3 1 t18) (fun t19 =>
(if t19 = 0 then
K17 ()
else
some 0)))))) (fun (t5 : Int32) =>
bd (m_X12_throwsIf n t4.2 t5 2) (fun t6 =>
(if t6.1 = 0 then
bd (m_X12_remembers n t6.2) (fun t7 =>
bd (m_X12_houseAt n x1 0) (fun t8 =>
(if ix t8 2080 then (if ix t8 2080 then nm (su t7 1 (t8).toNatClampNeg ((t7 1 (t8).toNatClampNeg) - x3)) (fun u11 =>
bd (m_X12_houseAt n x2 0) (fun t12 =>
bd (m_X12_of n u11 x2 0) (fun t13 =>
(if ix t12 2080 then nm (su u11 1 (t12).toNatClampNeg (x_min 9999 (t13 + x3))) (fun u15 =>
bd (m_X12_of n u15 x2 0) (fun t16 =>
some (t16, u15))) else none)))) else none) else none)))
else
some (0, t6.2))))
else
some (0, t4.2))))))
set_option maxHeartbeats 4000000 in
set_option maxRecDepth 100000 in
theorem c_X12_give (l : Launch) (D : va_G) (y : Nat → ClassId) (ek : EK) (n : Nat) (a0 : Nat → Nat) (v0 : St) (x1 : Int32) (x2 : Int32) (x3 : Int32) (res : Int32 × St) (hf : m_X12_give n v0 x1 x2 x3 = some res) : CI l yX12_give wX12_give { frames := 3, cells := 0, slots := 0, locals := 61 } D y ek [.ref (a0 0), .int x1, .int x2, .int x3] [bX12 y a0 v0] (res.1) [bX12 y a0 res.2] 0 0 := by
  unfold m_X12_give at hf
  refine ci_of (cc := cX12_give) (maxL := 4) (by decide) rfl rfl (Nat.le_of_ble_eq_true rfl) ?_
  intro p e s m below meth c Q A F hret
  refine a_lv (lv' := [(0, .ref (a0 0)), (1, .int x1), (2, .int x2), (3, .int x3)]) rfl ?_
  refine a_aloadn (pc := 0) (j := 0) F dX12_give_0 rfl rfl ?_
  refine a_iconst (pc := 1) F dX12_give_1 kc_0 ?_
  obtain ⟨u1, eu1, hf⟩ := nm_some hf
  refine a_put (pc := 2) (kb := 0) (j := 0) (f := 0) (ty := .int) (bs' := [bX12 y a0 u1]) F iW_X12 rfl rfl rfl (by decide) (tl q6_68) (fun _ h => h) tyX12 tyX12_ok nmX12 rfl rfl rfl rfl (Nat.le_of_ble_eq_true rfl) (by rw [eu1]; rfl) dX12_give_2 ?_
  refine a_aloadn (pc := 5) (j := 0) F dX12_give_5 rfl rfl ?_
  refine a_aloadn (pc := 6) (j := 0) F dX12_give_6 rfl rfl ?_
  refine a_iloadn (pc := 7) (j := 1) F dX12_give_7 rfl rfl ?_
  obtain ⟨t2, ht2, hf⟩ := bd_some hf
  refine a_callV (pc := 8) (bs' := [bX12 y a0 u1]) (kb := 0) (j := 0) F [0] (c_X12_noHouse l D y ek n a0 _ _ _ ht2) (cwV 1 F.1.2.2.2.2 (gV q7_159 q7_161 qs_70 q1_11 q7_162) rfl rfl rfl (by decide +kernel) ⟨Nat.le_of_ble_eq_true rfl, Nat.le_of_ble_eq_true rfl⟩) rfl rfl rfl rfl (by decide) rfl rfl rfl rfl rfl rfl (Nat.le_of_ble_eq_true rfl) ⟨Nat.zero_le _, Nat.zero_le _⟩ dX12_give_8 ?_
  refine a_join 27 (fun (t3 : Int32) => [(0, .ref (a0 0)), (1, .int x1), (2, .int x2), (3, .int x3)]) (fun (t3 : Int32) => [.int t3, .ref (a0 0)]) (fun (t3 : Int32) => [bX12 y a0 u1]) hf (fun t3 hf => ?_) (fun t3 hf J3 => ?_)
  · try dsimp only at hf ⊢
    refine a_iconst (pc := 27) F dX12_give_27 kc_1 ?_
    obtain ⟨t4, ht4, hf⟩ := bd_some hf
    refine a_callV (pc := 28) (bs' := [bX12 y a0 t4.2]) (kb := 0) (j := 0) F [0] (c_X12_throwsIf l D y ek n a0 _ _ _ _ ht4) (cwV 2 F.1.2.2.2.2 (gV q7_61 q7_63 qs_52 q1_11 q7_64) rfl rfl rfl (by decide +kernel) ⟨Nat.le_of_ble_eq_true rfl, Nat.le_of_ble_eq_true rfl⟩) rfl rfl rfl rfl (by decide) rfl rfl rfl rfl rfl rfl (Nat.le_of_ble_eq_true rfl) ⟨Nat.zero_le _, Nat.zero_le _⟩ dX12_give_28 ?_
    refine a_if_ne (pc := 31) (tgt := 66) F dX12_give_31 (by decide) (fun h => ?_) (fun h => ?_)
    · replace hf := it_neg h hf
      refine a_iconst (pc := 66) F dX12_give_66 kc_0 ?_
      obtain rfl := Option.some.inj hf
      exact hret _ _ _ _ (Nat.zero_le _) (Nat.zero_le _) rfl dX12_give_67
    · replace hf := it_pos h hf
      refine a_aloadn (pc := 34) (j := 0) F dX12_give_34 rfl rfl ?_
      refine a_iloadn (pc := 35) (j := 1) F dX12_give_35 rfl rfl ?_
      refine a_iloadn (pc := 36) (j := 2) F dX12_give_36 rfl rfl ?_
      refine a_join 59 (fun (t5 : Int32) => [(0, .ref (a0 0)), (1, .int x1), (2, .int x2), (3, .int x3)]) (fun (t5 : Int32) => [.int t5, .ref (a0 0)]) (fun (t5 : Int32) => [bX12 y a0 t4.2]) hf (fun t5 hf => ?_) (fun t5 hf J5 => ?_)
      · try dsimp only at hf ⊢
        refine a_iconst (pc := 59) F dX12_give_59 kc_2 ?_
        obtain ⟨t6, ht6, hf⟩ := bd_some hf
        refine a_callV (pc := 60) (bs' := [bX12 y a0 t6.2]) (kb := 0) (j := 0) F [0] (c_X12_throwsIf l D y ek n a0 _ _ _ _ ht6) (cwV 2 F.1.2.2.2.2 (gV q7_61 q7_63 qs_52 q1_11 q7_64) rfl rfl rfl (by decide +kernel) ⟨Nat.le_of_ble_eq_true rfl, Nat.le_of_ble_eq_true rfl⟩) rfl rfl rfl rfl (by decide) rfl rfl rfl rfl rfl rfl (Nat.le_of_ble_eq_true rfl) ⟨Nat.zero_le _, Nat.zero_le _⟩ dX12_give_60 ?_
        refine a_if_eq (pc := 63) (tgt := 68) F dX12_give_63 (by decide) (fun h => ?_) (fun h => ?_)
        · replace hf := it_pos h hf
          refine a_aloadn (pc := 68) (j := 0) F dX12_give_68 rfl rfl ?_
          obtain ⟨t7, ht7, hf⟩ := bd_some hf
          refine a_callVv (pc := 69) (bs' := [bX12 y a0 t7]) (kb := 0) (j := 0) F [0] (c_X12_remembers l D y ek n a0 _ _ ht7) (cwV 0 F.1.2.2.2.2 (gV q7_203 q7_205 qs_79 q1_11 q7_206) rfl rfl rfl (by decide +kernel) ⟨Nat.le_of_ble_eq_true rfl, Nat.le_of_ble_eq_true rfl⟩) rfl rfl rfl rfl (by decide) rfl rfl rfl rfl rfl rfl (Nat.le_of_ble_eq_true rfl) ⟨Nat.zero_le _, Nat.zero_le _⟩ dX12_give_69 ?_
          refine a_aloadn (pc := 72) (j := 0) F dX12_give_72 rfl rfl ?_
          refine a_get (pc := 73) (kb := 0) (j := 0) (f := 1) F iW_X12 rfl rfl rfl (by decide) (tl q6_69) (fun _ h => h) rfl dX12_give_73 ?_
          refine a_iloadn (pc := 76) (j := 1) F dX12_give_76 rfl rfl ?_
          refine a_iconst (pc := 77) F dX12_give_77 kc_0 ?_
          obtain ⟨t8, ht8, hf⟩ := bd_some hf
          refine a_callS (pc := 78) (bs' := [bX12 y a0 t7]) F [] (c_X12_houseAt l D y ek n  _ _ _ ht8) (va_cwS 2 F.1.2.2.2.2 (gS q6_212 q6_213 q1_11 q6_214) rfl rfl rfl (by decide +kernel) ⟨Nat.le_of_ble_eq_true rfl, Nat.le_of_ble_eq_true rfl⟩) (by decide) rfl rfl rfl rfl rfl rfl (Nat.le_of_ble_eq_true rfl) ⟨Nat.zero_le _, Nat.zero_le _⟩ dX12_give_78 ?_
          refine a_dup2 (pc := 81) F dX12_give_81 rfl rfl ?_
          obtain ⟨h9, hf⟩ := gd_some hf
          refine a_iald (pc := 82) (kb := 0) (j := 1) F rfl rfl h9 dX12_give_82 ?_
          refine a_iloadn (pc := 83) (j := 3) F dX12_give_83 rfl rfl ?_
          refine a_isub (pc := 84) F dX12_give_84 ?_
          obtain ⟨h10, hf⟩ := gd_some hf
          obtain ⟨u11, eu11, hf⟩ := nm_some hf
          refine a_iast (pc := 85) (kb := 0) (j := 1) (bs' := [bX12 y a0 u11]) F rfl rfl h10 (by rw [eu11]; rfl) dX12_give_85 ?_
          refine a_aloadn (pc := 86) (j := 0) F dX12_give_86 rfl rfl ?_
          refine a_get (pc := 87) (kb := 0) (j := 0) (f := 1) F iW_X12 rfl rfl rfl (by decide) (tl q6_69) (fun _ h => h) rfl dX12_give_87 ?_
          refine a_iloadn (pc := 90) (j := 2) F dX12_give_90 rfl rfl ?_
          refine a_iconst (pc := 91) F dX12_give_91 kc_0 ?_
          obtain ⟨t12, ht12, hf⟩ := bd_some hf
          refine a_callS (pc := 92) (bs' := [bX12 y a0 u11]) F [] (c_X12_houseAt l D y ek n  _ _ _ ht12) (va_cwS 2 F.1.2.2.2.2 (gS q6_212 q6_213 q1_11 q6_214) rfl rfl rfl (by decide +kernel) ⟨Nat.le_of_ble_eq_true rfl, Nat.le_of_ble_eq_true rfl⟩) (by decide) rfl rfl rfl rfl rfl rfl (Nat.le_of_ble_eq_true rfl) ⟨Nat.zero_le _, Nat.zero_le _⟩ dX12_give_92 ?_
          refine a_sipush (pc := 95) F dX12_give_95 ks_9999 ?_
          refine a_aloadn (pc := 98) (j := 0) F dX12_give_98 rfl rfl ?_
          refine a_iloadn (pc := 99) (j := 2) F dX12_give_99 rfl rfl ?_
          refine a_iconst (pc := 100) F dX12_give_100 kc_0 ?_
          obtain ⟨t13, ht13, hf⟩ := bd_some hf
          refine a_callV (pc := 101) (bs' := [bX12 y a0 u11]) (kb := 0) (j := 0) F [0] (c_X12_of l D y ek n a0 _ _ _ _ ht13) (cwV 2 F.1.2.2.2.2 (gV q7_111 q7_113 qs_61 q1_11 q7_114) rfl rfl rfl (by decide +kernel) ⟨Nat.le_of_ble_eq_true rfl, Nat.le_of_ble_eq_true rfl⟩) rfl rfl rfl rfl (by decide) rfl rfl rfl rfl rfl rfl (Nat.le_of_ble_eq_true rfl) ⟨Nat.zero_le _, Nat.zero_le _⟩ dX12_give_101 ?_
          refine a_iloadn (pc := 104) (j := 3) F dX12_give_104 rfl rfl ?_
          refine a_iadd (pc := 105) F dX12_give_105 ?_
          refine a_mmin (pc := 106) F (tl q7_119) (tl q2_170) (tl q1_22) (tl q_math_min) (Nat.le_of_ble_eq_true rfl) (Nat.le_of_ble_eq_true rfl) (Nat.zero_le _) (Nat.zero_le _) dX12_give_106 ?_
          obtain ⟨h14, hf⟩ := gd_some hf
          obtain ⟨u15, eu15, hf⟩ := nm_some hf
          refine a_iast (pc := 109) (kb := 0) (j := 1) (bs' := [bX12 y a0 u15]) F rfl rfl h14 (by rw [eu15]; rfl) dX12_give_109 ?_
          refine a_aloadn (pc := 110) (j := 0) F dX12_give_110 rfl rfl ?_
          refine a_iloadn (pc := 111) (j := 2) F dX12_give_111 rfl rfl ?_
          refine a_iconst (pc := 112) F dX12_give_112 kc_0 ?_
          obtain ⟨t16, ht16, hf⟩ := bd_some hf
          refine a_callV (pc := 113) (bs' := [bX12 y a0 u15]) (kb := 0) (j := 0) F [0] (c_X12_of l D y ek n a0 _ _ _ _ ht16) (cwV 2 F.1.2.2.2.2 (gV q7_111 q7_113 qs_61 q1_11 q7_114) rfl rfl rfl (by decide +kernel) ⟨Nat.le_of_ble_eq_true rfl, Nat.le_of_ble_eq_true rfl⟩) rfl rfl rfl rfl (by decide) rfl rfl rfl rfl rfl rfl (Nat.le_of_ble_eq_true rfl) ⟨Nat.zero_le _, Nat.zero_le _⟩ dX12_give_113 ?_
          obtain rfl := Option.some.inj hf
          exact hret _ _ _ _ (Nat.zero_le _) (Nat.zero_le _) rfl dX12_give_116
        · replace hf := it_neg h hf
          refine a_iconst (pc := 66) F dX12_give_66 kc_0 ?_
          obtain rfl := Option.some.inj hf
          exact hret _ _ _ _ (Nat.zero_le _) (Nat.zero_le _) rfl dX12_give_67
      · refine a_jn 54 (fun (t17 : Unit) => [(0, .ref (a0 0)), (1, .int x1), (2, .int x2), (3, .int x3)]) (fun (t17 : Unit) => [.ref (a0 0)]) (fun (t17 : Unit) => [bX12 y a0 t4.2]) hf (fun t17 hf => ?_) (fun K17 hK17 hf => ?_)
        · try dsimp only at hf ⊢
          refine a_iconst (pc := 54) F dX12_give_54 kc_1 ?_
          refine a_goto (pc := 55) (tgt := 59) F dX12_give_55 (by decide) ?_
          obtain rfl := Option.some.inj hf
          exact J5
        · try dsimp only at hf
          refine a_icmp_eq (pc := 37) (tgt := 54) F dX12_give_37 (by decide) (fun h => ?_) (fun h => ?_)
          · replace hf := it_pos h hf
            exact hK17 () hf
          · replace hf := it_neg h hf
            refine a_iloadn (pc := 40) (j := 3) F dX12_give_40 rfl rfl ?_
            refine a_iconst (pc := 41) F dX12_give_41 kc_1 ?_
            refine a_aloadn (pc := 42) (j := 0) F dX12_give_42 rfl rfl ?_
            refine a_iloadn (pc := 43) (j := 1) F dX12_give_43 rfl rfl ?_
            refine a_iconst (pc := 44) F dX12_give_44 kc_0 ?_
            obtain ⟨t18, ht18, hf⟩ := bd_some hf
            refine a_callV (pc := 45) (bs' := [bX12 y a0 t4.2]) (kb := 0) (j := 0) F [0] (c_X12_of l D y ek n a0 _ _ _ _ ht18) (cwV 2 F.1.2.2.2.2 (gV q7_111 q7_113 qs_61 q1_11 q7_114) rfl rfl rfl (by decide +kernel) ⟨Nat.le_of_ble_eq_true rfl, Nat.le_of_ble_eq_true rfl⟩) rfl rfl rfl rfl (by decide) rfl rfl rfl rfl rfl rfl (Nat.le_of_ble_eq_true rfl) ⟨Nat.zero_le _, Nat.zero_le _⟩ dX12_give_45 ?_
            obtain ⟨t19, ht19, hf⟩ := bd_some hf
            refine a_callS (pc := 48) (bs' := [bX12 y a0 t4.2]) F [] (c_X12_in l D y ek n  _ _ _ _ ht19) (va_cwS 3 F.1.2.2.2.2 (gS q7_77 q7_78 q1_11 q7_79) rfl rfl rfl (by decide +kernel) ⟨Nat.le_of_ble_eq_true rfl, Nat.le_of_ble_eq_true rfl⟩) (by decide) rfl rfl rfl rfl rfl rfl (Nat.le_of_ble_eq_true rfl) ⟨Nat.zero_le _, Nat.zero_le _⟩ dX12_give_48 ?_
            refine a_if_ne (pc := 51) (tgt := 58) F dX12_give_51 (by decide) (fun h => ?_) (fun h => ?_)
            · replace hf := it_neg h hf
              refine a_iconst (pc := 58) F dX12_give_58 kc_0 ?_
              obtain rfl := Option.some.inj hf
              exact J5
            · replace hf := it_pos h hf
              exact hK17 () hf
  · refine a_jn 22 (fun (t20 : Unit) => [(0, .ref (a0 0)), (1, .int x1), (2, .int x2), (3, .int x3)]) (fun (t20 : Unit) => [.ref (a0 0)]) (fun (t20 : Unit) => [bX12 y a0 u1]) hf (fun t20 hf => ?_) (fun K20 hK20 hf => ?_)
    · try dsimp only at hf ⊢
      refine a_iconst (pc := 22) F dX12_give_22 kc_1 ?_
      refine a_goto (pc := 23) (tgt := 27) F dX12_give_23 (by decide) ?_
      obtain rfl := Option.some.inj hf
      exact J3
    · try dsimp only at hf
      refine a_if_ne (pc := 11) (tgt := 22) F dX12_give_11 (by decide) (fun h => ?_) (fun h => ?_)
      · replace hf := it_neg h hf
        exact hK20 () hf
      · replace hf := it_pos h hf
        refine a_aloadn (pc := 14) (j := 0) F dX12_give_14 rfl rfl ?_
        refine a_iloadn (pc := 15) (j := 2) F dX12_give_15 rfl rfl ?_
        obtain ⟨t21, ht21, hf⟩ := bd_some hf
        refine a_callV (pc := 16) (bs' := [bX12 y a0 u1]) (kb := 0) (j := 0) F [0] (c_X12_noHouse l D y ek n a0 _ _ _ ht21) (cwV 1 F.1.2.2.2.2 (gV q7_159 q7_161 qs_70 q1_11 q7_162) rfl rfl rfl (by decide +kernel) ⟨Nat.le_of_ble_eq_true rfl, Nat.le_of_ble_eq_true rfl⟩) rfl rfl rfl rfl (by decide) rfl rfl rfl rfl rfl rfl (Nat.le_of_ble_eq_true rfl) ⟨Nat.zero_le _, Nat.zero_le _⟩ dX12_give_16 ?_
        refine a_if_eq (pc := 19) (tgt := 26) F dX12_give_19 (by decide) (fun h => ?_) (fun h => ?_)
        · replace hf := it_pos h hf
          refine a_iconst (pc := 26) F dX12_give_26 kc_0 ?_
          obtain rfl := Option.some.inj hf
          exact J3
        · replace hf := it_neg h hf
          exact hK20 () hf

abbrev wX12_sweep : List Cond := Cond.code yX12_sweep cX12_sweep 2 (some .int) :: WALL
def m_X12_sweep (n : Nat) (v0 : St) : Option (Int32 × St) :=
nm (su v0 0 0 0) (fun u1 =>
bd (m_X12_remembers n u1) (fun t2 =>
nm (t2 1 5) (fun x1_3 =>
nm (su t2 1 5 0) (fun u4 =>
some (x1_3, u4)))))
set_option maxHeartbeats 4000000 in
set_option maxRecDepth 100000 in
theorem c_X12_sweep (l : Launch) (D : va_G) (y : Nat → ClassId) (ek : EK) (n : Nat) (a0 : Nat → Nat) (v0 : St) (res : Int32 × St) (hf : m_X12_sweep n v0 = some res) : CI l yX12_sweep wX12_sweep { frames := 1, cells := 0, slots := 0, locals := 21 } D y ek [.ref (a0 0)] [bX12 y a0 v0] (res.1) [bX12 y a0 res.2] 0 0 := by
  unfold m_X12_sweep at hf
  refine ci_of (cc := cX12_sweep) (maxL := 2) (by decide) rfl rfl (Nat.le_of_ble_eq_true rfl) ?_
  intro p e s m below meth c Q A F hret
  refine a_lv (lv' := [(0, .ref (a0 0))]) rfl ?_
  refine a_aloadn (pc := 0) (j := 0) F dX12_sweep_0 rfl rfl ?_
  refine a_iconst (pc := 1) F dX12_sweep_1 kc_0 ?_
  obtain ⟨u1, eu1, hf⟩ := nm_some hf
  refine a_put (pc := 2) (kb := 0) (j := 0) (f := 0) (ty := .int) (bs' := [bX12 y a0 u1]) F iW_X12 rfl rfl rfl (by decide) (tl q6_68) (fun _ h => h) tyX12 tyX12_ok nmX12 rfl rfl rfl rfl (Nat.le_of_ble_eq_true rfl) (by rw [eu1]; rfl) dX12_sweep_2 ?_
  refine a_aloadn (pc := 5) (j := 0) F dX12_sweep_5 rfl rfl ?_
  obtain ⟨t2, ht2, hf⟩ := bd_some hf
  refine a_callVv (pc := 6) (bs' := [bX12 y a0 t2]) (kb := 0) (j := 0) F [0] (c_X12_remembers l D y ek n a0 _ _ ht2) (cwV 0 F.1.2.2.2.2 (gV q7_203 q7_205 qs_79 q1_11 q7_206) rfl rfl rfl (by decide +kernel) ⟨Nat.le_of_ble_eq_true rfl, Nat.le_of_ble_eq_true rfl⟩) rfl rfl rfl rfl (by decide) rfl rfl rfl rfl rfl rfl (Nat.le_of_ble_eq_true rfl) ⟨Nat.zero_le _, Nat.zero_le _⟩ dX12_sweep_6 ?_
  refine a_aloadn (pc := 9) (j := 0) F dX12_sweep_9 rfl rfl ?_
  refine a_get (pc := 10) (kb := 0) (j := 0) (f := 1) F iW_X12 rfl rfl rfl (by decide) (tl q6_69) (fun _ h => h) rfl dX12_sweep_10 ?_
  refine a_iconst (pc := 13) F dX12_sweep_13 kc_5 ?_
  refine a_ialdc (pc := 14) (kb := 0) (j := 1) (k := 5) F rfl rfl (by decide) (by decide) dX12_sweep_14 ?_
  obtain ⟨x1_3, ex1_3, hf⟩ := nm_some hf
  refine a_nmi ex1_3 ?_
  refine a_istoren (pc := 15) (lv' := [(0, .ref (a0 0)), (1, .int x1_3)]) F [1, 0] dX12_sweep_15 rfl (by decide) rfl ?_
  refine a_aloadn (pc := 16) (j := 0) F dX12_sweep_16 rfl rfl ?_
  refine a_get (pc := 17) (kb := 0) (j := 0) (f := 1) F iW_X12 rfl rfl rfl (by decide) (tl q6_69) (fun _ h => h) rfl dX12_sweep_17 ?_
  refine a_iconst (pc := 20) F dX12_sweep_20 kc_5 ?_
  refine a_iconst (pc := 21) F dX12_sweep_21 kc_0 ?_
  obtain ⟨u4, eu4, hf⟩ := nm_some hf
  refine a_iastc (pc := 22) (kb := 0) (j := 1) (k := 5) (bs' := [bX12 y a0 u4]) F rfl rfl (by decide) (by decide) (by rw [eu4]; rfl) dX12_sweep_22 ?_
  refine a_iloadn (pc := 23) (j := 1) F dX12_sweep_23 rfl rfl ?_
  obtain rfl := Option.some.inj hf
  exact hret _ _ _ _ (Nat.zero_le _) (Nat.zero_le _) rfl dX12_sweep_24
