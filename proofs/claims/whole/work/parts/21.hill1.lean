abbrev wX3_houses : List Cond := Cond.code yX3_houses cX3_houses 1 (some .int) :: WALL
def m_X3_houses (n : Nat) (v0 : St) : Option (Int32) :=
some (2 * (v0 0 0))
set_option maxHeartbeats 4000000 in
set_option maxRecDepth 100000 in
theorem c_X3_houses (l : Launch) (D : va_G) (y : Nat → ClassId) (ek : EK) (n : Nat) (a0 : Nat → Nat) (v0 : St) (res : Int32) (hf : m_X3_houses n v0 = some res) : CI l yX3_houses wX3_houses { frames := 0, cells := 0, slots := 0, locals := 0 } D y ek [.ref (a0 0)] [bX3 y a0 v0] (res) [bX3 y a0 v0] 0 0 := by
  unfold m_X3_houses at hf
  refine ci_of (cc := cX3_houses) (maxL := 1) (by decide) rfl rfl (Nat.le_of_ble_eq_true rfl) ?_
  intro p e s m below meth c Q A F hret
  refine a_lv (lv' := [(0, .ref (a0 0))]) rfl ?_
  refine a_iconst (pc := 0) F dX3_houses_0 kc_2 ?_
  refine a_aloadn (pc := 1) (j := 0) F dX3_houses_1 rfl rfl ?_
  refine a_get (pc := 2) (kb := 0) (j := 0) (f := 0) F iW_X3 rfl rfl rfl (by decide) (tl q1_66) (fun _ h => h) rfl dX3_houses_2 ?_
  refine a_imul (pc := 5) F dX3_houses_5 ?_
  obtain rfl := Option.some.inj hf
  exact hret _ _ _ _ (Nat.zero_le _) (Nat.zero_le _) rfl dX3_houses_6

abbrev wX3_leaning : List Cond := Cond.code yX3_leaning cX3_leaning 4 (some .int) :: WALL
def m_X3_leaning (n : Nat) (v0 : St) (x1 : Int32) (x2 : Int32) : Option (Int32) :=
bd ((if (v0 3 0) ≤ 0 then
some 0
else
(if ¬ (v0 3 0) = 0 then some ((x2 - x1) / (v0 3 0)) else none))) (fun (t1 : Int32) =>
some (x_max (-5) (x_min 5 t1)))
set_option maxHeartbeats 4000000 in
set_option maxRecDepth 100000 in
theorem c_X3_leaning (l : Launch) (D : va_G) (y : Nat → ClassId) (ek : EK) (n : Nat) (a0 : Nat → Nat) (v0 : St) (x1 : Int32) (x2 : Int32) (res : Int32) (hf : m_X3_leaning n v0 x1 x2 = some res) : CI l yX3_leaning wX3_leaning { frames := 1, cells := 0, slots := 0, locals := 16 } D y ek [.ref (a0 0), .int x1, .int x2] [bX3 y a0 v0] (res) [bX3 y a0 v0] 0 0 := by
  unfold m_X3_leaning at hf
  refine ci_of (cc := cX3_leaning) (maxL := 4) (by decide) rfl rfl (Nat.le_of_ble_eq_true rfl) ?_
  intro p e s m below meth c Q A F hret
  refine a_lv (lv' := [(0, .ref (a0 0)), (1, .int x1), (2, .int x2)]) rfl ?_
  refine a_aloadn (pc := 0) (j := 0) F dX3_leaning_0 rfl rfl ?_
  refine a_get (pc := 1) (kb := 0) (j := 0) (f := 3) F iW_X3 rfl rfl rfl (by decide) (tl q1_76) (fun _ h => h) rfl dX3_leaning_1 ?_
  refine a_join 19 (fun (t1 : Int32) => []) (fun (t1 : Int32) => [.int t1]) (fun (t1 : Int32) => [bX3 y a0 v0]) hf (fun t1 hf => ?_) (fun t1 hf J1 => ?_)
  · try dsimp only at hf ⊢
    refine a_istoren (pc := 19) (lv' := [(3, .int t1)]) F [0] dX3_leaning_19 rfl (by decide) rfl ?_
    refine a_bipush (pc := 20) F dX3_leaning_20 kb_m5 ?_
    refine a_iconst (pc := 22) F dX3_leaning_22 kc_5 ?_
    refine a_iloadn (pc := 23) (j := 0) F dX3_leaning_23 rfl rfl ?_
    refine a_mmin (pc := 24) F (tl q2_169) (tl q2_170) (tl q1_22) (tl q_math_min) (Nat.le_of_ble_eq_true rfl) (Nat.le_of_ble_eq_true rfl) (Nat.zero_le _) (Nat.zero_le _) dX3_leaning_24 ?_
    refine a_mmax (pc := 27) F (tl q2_172) (tl q2_173) (tl q1_22) (tl q_math_max) (Nat.le_of_ble_eq_true rfl) (Nat.le_of_ble_eq_true rfl) (Nat.zero_le _) (Nat.zero_le _) dX3_leaning_27 ?_
    obtain rfl := Option.some.inj hf
    exact hret _ _ _ _ (Nat.zero_le _) (Nat.zero_le _) rfl dX3_leaning_30
  · refine a_if_le (pc := 4) (tgt := 18) F dX3_leaning_4 (by decide) (fun h => ?_) (fun h => ?_)
    · replace hf := it_pos h hf
      refine a_iconst (pc := 18) F dX3_leaning_18 kc_0 ?_
      refine a_sub [] rfl ?_
      obtain rfl := Option.some.inj hf
      exact J1
    · replace hf := it_neg h hf
      refine a_iloadn (pc := 7) (j := 2) F dX3_leaning_7 rfl rfl ?_
      refine a_iloadn (pc := 8) (j := 1) F dX3_leaning_8 rfl rfl ?_
      refine a_isub (pc := 9) F dX3_leaning_9 ?_
      refine a_aloadn (pc := 10) (j := 0) F dX3_leaning_10 rfl rfl ?_
      refine a_get (pc := 11) (kb := 0) (j := 0) (f := 3) F iW_X3 rfl rfl rfl (by decide) (tl q1_76) (fun _ h => h) rfl dX3_leaning_11 ?_
      obtain ⟨h2, hf⟩ := gd_some hf
      refine a_idiv (pc := 14) F dX3_leaning_14 h2 ?_
      refine a_goto (pc := 15) (tgt := 19) F dX3_leaning_15 (by decide) ?_
      refine a_sub [] rfl ?_
      obtain rfl := Option.some.inj hf
      exact J1

abbrev wX3_tiltOf : List Cond := Cond.code yX3_tiltOf cX3_tiltOf 2 (some .int) :: WALL
def m_X3_tiltOf (n : Nat) (v0 : St) (x1 : Int32) : Option (Int32) :=
(if ix x1 5 then (if (v0 11 (x1).toNatClampNeg) = 0 then
(if ix (2 * x1) 10 then (if ix ((2 * x1) + 1) 10 then bd (m_X3_leaning n v0 (v0 18 ((2 * x1)).toNatClampNeg) (v0 18 (((2 * x1) + 1)).toNatClampNeg)) (fun t4 =>
some t4) else none) else none)
else
some 0) else none)
set_option maxHeartbeats 4000000 in
set_option maxRecDepth 100000 in
theorem c_X3_tiltOf (l : Launch) (D : va_G) (y : Nat → ClassId) (ek : EK) (n : Nat) (a0 : Nat → Nat) (v0 : St) (x1 : Int32) (res : Int32) (hf : m_X3_tiltOf n v0 x1 = some res) : CI l yX3_tiltOf wX3_tiltOf { frames := 2, cells := 0, slots := 0, locals := 39 } D y ek [.ref (a0 0), .int x1] [bX3 y a0 v0] (res) [bX3 y a0 v0] 0 0 := by
  unfold m_X3_tiltOf at hf
  refine ci_of (cc := cX3_tiltOf) (maxL := 2) (by decide) rfl rfl (Nat.le_of_ble_eq_true rfl) ?_
  intro p e s m below meth c Q A F hret
  refine a_lv (lv' := [(0, .ref (a0 0)), (1, .int x1)]) rfl ?_
  refine a_aloadn (pc := 0) (j := 0) F dX3_tiltOf_0 rfl rfl ?_
  refine a_get (pc := 1) (kb := 0) (j := 0) (f := 11) F iW_X3 rfl rfl rfl (by decide) (tl q1_97) (fun _ h => h) rfl dX3_tiltOf_1 ?_
  refine a_iloadn (pc := 4) (j := 1) F dX3_tiltOf_4 rfl rfl ?_
  obtain ⟨h1, hf⟩ := gd_some hf
  refine a_zald (pc := 5) (kb := 0) (j := 3) F rfl rfl h1 dX3_tiltOf_5 ?_
  refine a_if_eq (pc := 6) (tgt := 13) F dX3_tiltOf_6 (by decide) (fun h => ?_) (fun h => ?_)
  · replace hf := it_pos h hf
    refine a_aloadn (pc := 13) (j := 0) F dX3_tiltOf_13 rfl rfl ?_
    refine a_aloadn (pc := 14) (j := 0) F dX3_tiltOf_14 rfl rfl ?_
    refine a_get (pc := 15) (kb := 0) (j := 0) (f := 18) F iW_X3 rfl rfl rfl (by decide) (tl q1_115) (fun _ h => h) rfl dX3_tiltOf_15 ?_
    refine a_iconst (pc := 18) F dX3_tiltOf_18 kc_2 ?_
    refine a_iloadn (pc := 19) (j := 1) F dX3_tiltOf_19 rfl rfl ?_
    refine a_imul (pc := 20) F dX3_tiltOf_20 ?_
    obtain ⟨h2, hf⟩ := gd_some hf
    refine a_iald (pc := 21) (kb := 0) (j := 10) F rfl rfl h2 dX3_tiltOf_21 ?_
    refine a_aloadn (pc := 22) (j := 0) F dX3_tiltOf_22 rfl rfl ?_
    refine a_get (pc := 23) (kb := 0) (j := 0) (f := 18) F iW_X3 rfl rfl rfl (by decide) (tl q1_115) (fun _ h => h) rfl dX3_tiltOf_23 ?_
    refine a_iconst (pc := 26) F dX3_tiltOf_26 kc_2 ?_
    refine a_iloadn (pc := 27) (j := 1) F dX3_tiltOf_27 rfl rfl ?_
    refine a_imul (pc := 28) F dX3_tiltOf_28 ?_
    refine a_iconst (pc := 29) F dX3_tiltOf_29 kc_1 ?_
    refine a_iadd (pc := 30) F dX3_tiltOf_30 ?_
    obtain ⟨h3, hf⟩ := gd_some hf
    refine a_iald (pc := 31) (kb := 0) (j := 10) F rfl rfl h3 dX3_tiltOf_31 ?_
    obtain ⟨t4, ht4, hf⟩ := bd_some hf
    refine a_callV (pc := 32) (bs' := [bX3 y a0 v0]) (kb := 0) (j := 0) F [0] (c_X3_leaning l D y ek n a0 _ _ _ _ ht4) (cwV 2 F.1.2.2.2.2 (gV q2_165 q2_166 q2_167 q1_3 q2_168) rfl rfl rfl (by decide +kernel) ⟨Nat.le_of_ble_eq_true rfl, Nat.le_of_ble_eq_true rfl⟩) rfl rfl rfl rfl (by decide) rfl rfl rfl rfl rfl rfl (Nat.le_of_ble_eq_true rfl) ⟨Nat.zero_le _, Nat.zero_le _⟩ dX3_tiltOf_32 ?_
    obtain rfl := Option.some.inj hf
    exact hret _ _ _ _ (Nat.zero_le _) (Nat.zero_le _) rfl dX3_tiltOf_35
  · replace hf := it_neg h hf
    refine a_iconst (pc := 9) F dX3_tiltOf_9 kc_0 ?_
    refine a_goto (pc := 10) (tgt := 35) F dX3_tiltOf_10 (by decide) ?_
    obtain rfl := Option.some.inj hf
    exact hret _ _ _ _ (Nat.zero_le _) (Nat.zero_le _) rfl dX3_tiltOf_35

abbrev wX3_thingsIn : List Cond := Cond.code yX3_thingsIn cX3_thingsIn 4 (some .int) :: WALL
def m_X3_thingsIn (n : Nat) (v0 : St) (x1 : Int32) : Option (Int32) :=
lp (fun (rc1 : Int32 × Int32 → Option (Int32)) (x1l : Int32 × Int32) =>
(if (v0 1 0) ≤ x1l.2 then
some x1l.1
else
(if ix x1l.2 10 then bd ((if (v0 17 (x1l.2).toNatClampNeg) = x1 then
nm (x1l.1 ||| (x_shl 1 x1l.2)) (fun x2_4 =>
some x2_4)
else
some x1l.1)) (fun (t3 : Int32) =>
rc1 (t3, (x1l.2 + 1))) else none))) n (0, 0)
set_option maxHeartbeats 4000000 in
set_option maxRecDepth 100000 in
theorem c_X3_thingsIn (l : Launch) (D : va_G) (y : Nat → ClassId) (ek : EK) (n : Nat) (a0 : Nat → Nat) (v0 : St) (x1 : Int32) (res : Int32) (hf : m_X3_thingsIn n v0 x1 = some res) : CI l yX3_thingsIn wX3_thingsIn { frames := 0, cells := 0, slots := 0, locals := 0 } D y ek [.ref (a0 0), .int x1] [bX3 y a0 v0] (res) [bX3 y a0 v0] 0 0 := by
  unfold m_X3_thingsIn at hf
  refine ci_of (cc := cX3_thingsIn) (maxL := 4) (by decide) rfl rfl (Nat.le_of_ble_eq_true rfl) ?_
  intro p e s m below meth c Q A F hret
  refine a_lv (lv' := [(0, .ref (a0 0)), (1, .int x1)]) rfl ?_
  refine a_iconst (pc := 0) F dX3_thingsIn_0 kc_0 ?_
  refine a_istoren (pc := 1) (lv' := [(0, .ref (a0 0)), (1, .int x1), (2, .int 0)]) F [1, 2, 0] dX3_thingsIn_1 rfl (by decide) rfl ?_
  refine a_iconst (pc := 2) F dX3_thingsIn_2 kc_0 ?_
  refine a_istoren (pc := 3) (lv' := [(0, .ref (a0 0)), (1, .int x1), (2, .int 0), (3, .int 0)]) F [1, 2, 3, 0] dX3_thingsIn_3 rfl (by decide) rfl ?_
  refine a_loop 4 (fun (x1l : Int32 × Int32) => [(0, .ref (a0 0)), (1, .int x1), (2, .int x1l.1), (3, .int x1l.2)]) (fun (x1l : Int32 × Int32) => [bX3 y a0 v0]) (fun rc1 x1l ih1 hf => ?_) hf rfl rfl
  try dsimp only at hf ⊢
  refine a_iloadn (pc := 4) (j := 3) F dX3_thingsIn_4 rfl rfl ?_
  refine a_aloadn (pc := 5) (j := 0) F dX3_thingsIn_5 rfl rfl ?_
  refine a_get (pc := 6) (kb := 0) (j := 0) (f := 1) F iW_X3 rfl rfl rfl (by decide) (tl q1_69) (fun _ h => h) rfl dX3_thingsIn_6 ?_
  refine a_icmp_ge (pc := 9) (tgt := 34) F dX3_thingsIn_9 (by decide) (fun h => ?_) (fun h => ?_)
  · replace hf := it_pos h hf
    refine a_iloadn (pc := 34) (j := 2) F dX3_thingsIn_34 rfl rfl ?_
    obtain rfl := Option.some.inj hf
    exact hret _ _ _ _ (Nat.zero_le _) (Nat.zero_le _) rfl dX3_thingsIn_35
  · replace hf := it_neg h hf
    refine a_aloadn (pc := 12) (j := 0) F dX3_thingsIn_12 rfl rfl ?_
    refine a_get (pc := 13) (kb := 0) (j := 0) (f := 17) F iW_X3 rfl rfl rfl (by decide) (tl q1_112) (fun _ h => h) rfl dX3_thingsIn_13 ?_
    refine a_iloadn (pc := 16) (j := 3) F dX3_thingsIn_16 rfl rfl ?_
    obtain ⟨h2, hf⟩ := gd_some hf
    refine a_iald (pc := 17) (kb := 0) (j := 9) F rfl rfl h2 dX3_thingsIn_17 ?_
    refine a_iloadn (pc := 18) (j := 1) F dX3_thingsIn_18 rfl rfl ?_
    refine a_join 28 (fun (t3 : Int32) => [(0, .ref (a0 0)), (1, .int x1), (2, .int t3), (3, .int x1l.2)]) (fun (t3 : Int32) => []) (fun (t3 : Int32) => [bX3 y a0 v0]) hf (fun t3 hf => ?_) (fun t3 hf J3 => ?_)
    · try dsimp only at hf ⊢
      refine a_iinc (pc := 28) (j := 3) (v := (x1l.2 + 1)) (lv' := [(0, .ref (a0 0)), (1, .int x1), (2, .int t3), (3, .int (x1l.2 + 1))]) F [1, 2, 3, 0] dX3_thingsIn_28 rfl ki_1 (by decide) rfl ?_
      refine a_goto (pc := 31) (tgt := 4) F dX3_thingsIn_31 (by decide) ?_
      exact ih1 (t3, (x1l.2 + 1)) hf
    · refine a_icmp_ne (pc := 19) (tgt := 28) F dX3_thingsIn_19 (by decide) (fun h => ?_) (fun h => ?_)
      · replace hf := it_neg h hf
        obtain rfl := Option.some.inj hf
        exact J3
      · replace hf := it_pos h hf
        refine a_iloadn (pc := 22) (j := 2) F dX3_thingsIn_22 rfl rfl ?_
        refine a_iconst (pc := 23) F dX3_thingsIn_23 kc_1 ?_
        refine a_iloadn (pc := 24) (j := 3) F dX3_thingsIn_24 rfl rfl ?_
        refine a_ishl (pc := 25) F dX3_thingsIn_25 ?_
        refine a_ior (pc := 26) F dX3_thingsIn_26 ?_
        obtain ⟨x2_4, ex2_4, hf⟩ := nm_some hf
        refine a_nmi ex2_4 ?_
        refine a_istoren (pc := 27) (lv' := [(0, .ref (a0 0)), (1, .int x1), (2, .int x2_4), (3, .int x1l.2)]) F [1, 2, 0, 3] dX3_thingsIn_27 rfl (by decide) rfl ?_
        obtain rfl := Option.some.inj hf
        exact J3

abbrev wX3_weigh : List Cond := Cond.code yX3_weigh cX3_weigh 3 none :: WALL
def m_X3_weigh (n : Nat) (v0 : St) : Option (St) :=
bd (lp (fun (rc22 : Int32 × St → Option (St)) (x22l : Int32 × St) =>
bd (m_X3_houses n x22l.2) (fun t23 =>
(if t23 ≤ x22l.1 then
some x22l.2
else
(if ix x22l.1 10 then (if ix x22l.1 10 then nm (su x22l.2 18 (x22l.1).toNatClampNeg ((x22l.2 2 0) + (5 * (x22l.2 14 (x22l.1).toNatClampNeg)))) (fun u26 =>
rc22 ((x22l.1 + 1), u26)) else none) else none)))) n (0, v0)) (fun (t1 : St) =>
bd (lp (fun (rc13 : Int32 × St → Option (St)) (x13l : Int32 × St) =>
(if (x13l.2 1 0) ≤ x13l.1 then
some x13l.2
else
(if ix x13l.1 10 then nm (x13l.2 17 (x13l.1).toNatClampNeg) (fun x2_15 =>
bd ((if x2_15 < 0 then
some x13l.2
else
bd (m_X3_houses n x13l.2) (fun t17 =>
(if t17 ≤ x2_15 then
some x13l.2
else
(if ix x2_15 10 then (if ix x13l.1 10 then (if ix x2_15 10 then nm (su x13l.2 18 (x2_15).toNatClampNeg ((x13l.2 18 (x2_15).toNatClampNeg) + (x13l.2 15 (x13l.1).toNatClampNeg))) (fun u21 =>
some u21) else none) else none) else none))))) (fun (t16 : St) =>
rc13 ((x13l.1 + 1), t16))) else none))) n (0, t1)) (fun (t2 : St) =>
lp (fun (rc3 : Int32 × St → Option (St)) (x3l : Int32 × St) =>
(if (x3l.2 0 0) ≤ x3l.1 then
some x3l.2
else
bd (m_X3_tiltOf n x3l.2 x3l.1) (fun t4 =>
(if ix x3l.1 5 then bd ((if (x3l.2 12 (x3l.1).toNatClampNeg) = 0 then
some (5 + t4)
else
some 0)) (fun (t6 : Int32) =>
(if ix (2 * x3l.1) 10 then nm (su x3l.2 19 ((2 * x3l.1)).toNatClampNeg t6) (fun u8 =>
(if ix x3l.1 5 then bd ((if (u8 12 (x3l.1).toNatClampNeg) = 0 then
some (5 - t4)
else
some 0)) (fun (t10 : Int32) =>
(if ix ((2 * x3l.1) + 1) 10 then nm (su u8 19 (((2 * x3l.1) + 1)).toNatClampNeg t10) (fun u12 =>
rc3 ((x3l.1 + 1), u12)) else none)) else none)) else none)) else none)))) n (0, t2)))
set_option maxHeartbeats 4000000 in
set_option maxRecDepth 100000 in
theorem c_X3_weigh (l : Launch) (D : va_G) (y : Nat → ClassId) (ek : EK) (n : Nat) (a0 : Nat → Nat) (v0 : St) (res : St) (hf : m_X3_weigh n v0 = some res) : CV l yX3_weigh wX3_weigh { frames := 3, cells := 0, slots := 0, locals := 60 } D y ek [.ref (a0 0)] [bX3 y a0 v0] [bX3 y a0 res] 0 0 := by
  unfold m_X3_weigh at hf
  refine cv_of (cc := cX3_weigh) (maxL := 3) (by decide) rfl rfl (Nat.le_of_ble_eq_true rfl) ?_
  intro p e s m below meth c Q A F hret
  refine a_lv (lv' := [(0, .ref (a0 0))]) rfl ?_
  refine a_iconst (pc := 0) F dX3_weigh_0 kc_0 ?_
  refine a_istoren (pc := 1) (lv' := [(0, .ref (a0 0)), (1, .int 0)]) F [1, 0] dX3_weigh_1 rfl (by decide) rfl ?_
  refine a_join 35 (fun (t1 : St) => [(0, .ref (a0 0))]) (fun (t1 : St) => []) (fun (t1 : St) => [bX3 y a0 t1]) hf (fun t1 hf => ?_) (fun t1 hf J1 => ?_)
  · try dsimp only at hf ⊢
    refine a_iconst (pc := 35) F dX3_weigh_35 kc_0 ?_
    refine a_istoren (pc := 36) (lv' := [(0, .ref (a0 0)), (1, .int 0)]) F [1, 0] dX3_weigh_36 rfl (by decide) rfl ?_
    refine a_join 85 (fun (t2 : St) => [(0, .ref (a0 0))]) (fun (t2 : St) => []) (fun (t2 : St) => [bX3 y a0 t2]) hf (fun t2 hf => ?_) (fun t2 hf J2 => ?_)
    · try dsimp only at hf ⊢
      refine a_iconst (pc := 85) F dX3_weigh_85 kc_0 ?_
      refine a_istoren (pc := 86) (lv' := [(0, .ref (a0 0)), (1, .int 0)]) F [1, 0] dX3_weigh_86 rfl (by decide) rfl ?_
      refine a_loop 87 (fun (x3l : Int32 × St) => [(0, .ref (a0 0)), (1, .int x3l.1)]) (fun (x3l : Int32 × St) => [bX3 y a0 x3l.2]) (fun rc3 x3l ih3 hf => ?_) hf rfl rfl
      try dsimp only at hf ⊢
      refine a_iloadn (pc := 87) (j := 1) F dX3_weigh_87 rfl rfl ?_
      refine a_aloadn (pc := 88) (j := 0) F dX3_weigh_88 rfl rfl ?_
      refine a_get (pc := 89) (kb := 0) (j := 0) (f := 0) F iW_X3 rfl rfl rfl (by decide) (tl q1_66) (fun _ h => h) rfl dX3_weigh_89 ?_
      refine a_icmp_ge (pc := 92) (tgt := 157) F dX3_weigh_92 (by decide) (fun h => ?_) (fun h => ?_)
      · replace hf := it_pos h hf
        obtain rfl := Option.some.inj hf
        exact hret _ _ _ _ (Nat.zero_le _) (Nat.zero_le _) dX3_weigh_157
      · replace hf := it_neg h hf
        refine a_aloadn (pc := 95) (j := 0) F dX3_weigh_95 rfl rfl ?_
        refine a_iloadn (pc := 96) (j := 1) F dX3_weigh_96 rfl rfl ?_
        obtain ⟨t4, ht4, hf⟩ := bd_some hf
        refine a_callV (pc := 97) (bs' := [bX3 y a0 x3l.2]) (kb := 0) (j := 0) F [0] (c_X3_tiltOf l D y ek n a0 _ _ _ ht4) (cwV 1 F.1.2.2.2.2 (gV q2_161 q2_162 q2_163 q1_3 q2_164) rfl rfl rfl (by decide +kernel) ⟨Nat.le_of_ble_eq_true rfl, Nat.le_of_ble_eq_true rfl⟩) rfl rfl rfl rfl (by decide) rfl rfl rfl rfl rfl rfl (Nat.le_of_ble_eq_true rfl) ⟨Nat.zero_le _, Nat.zero_le _⟩ dX3_weigh_97 ?_
        refine a_istoren (pc := 100) (lv' := [(0, .ref (a0 0)), (1, .int x3l.1), (2, .int t4)]) F [1, 2, 0] dX3_weigh_100 rfl (by decide) rfl ?_
        refine a_aloadn (pc := 101) (j := 0) F dX3_weigh_101 rfl rfl ?_
        refine a_get (pc := 102) (kb := 0) (j := 0) (f := 19) F iW_X3 rfl rfl rfl (by decide) (tl q1_119) (fun _ h => h) rfl dX3_weigh_102 ?_
        refine a_iconst (pc := 105) F dX3_weigh_105 kc_2 ?_
        refine a_iloadn (pc := 106) (j := 1) F dX3_weigh_106 rfl rfl ?_
        refine a_imul (pc := 107) F dX3_weigh_107 ?_
        refine a_aloadn (pc := 108) (j := 0) F dX3_weigh_108 rfl rfl ?_
        refine a_get (pc := 109) (kb := 0) (j := 0) (f := 12) F iW_X3 rfl rfl rfl (by decide) (tl q1_99) (fun _ h => h) rfl dX3_weigh_109 ?_
        refine a_iloadn (pc := 112) (j := 1) F dX3_weigh_112 rfl rfl ?_
        obtain ⟨h5, hf⟩ := gd_some hf
        refine a_zald (pc := 113) (kb := 0) (j := 4) F rfl rfl h5 dX3_weigh_113 ?_
        refine a_join 124 (fun (t6 : Int32) => [(0, .ref (a0 0)), (1, .int x3l.1), (2, .int t4)]) (fun (t6 : Int32) => [.int t6, .int (2 * x3l.1), .ref (a0 20)]) (fun (t6 : Int32) => [bX3 y a0 x3l.2]) hf (fun t6 hf => ?_) (fun t6 hf J6 => ?_)
        · try dsimp only at hf ⊢
          obtain ⟨h7, hf⟩ := gd_some hf
          obtain ⟨u8, eu8, hf⟩ := nm_some hf
          refine a_iast (pc := 124) (kb := 0) (j := 11) (bs' := [bX3 y a0 u8]) F rfl rfl h7 (by rw [eu8]; rfl) dX3_weigh_124 ?_
          refine a_aloadn (pc := 125) (j := 0) F dX3_weigh_125 rfl rfl ?_
          refine a_get (pc := 126) (kb := 0) (j := 0) (f := 19) F iW_X3 rfl rfl rfl (by decide) (tl q1_119) (fun _ h => h) rfl dX3_weigh_126 ?_
          refine a_iconst (pc := 129) F dX3_weigh_129 kc_2 ?_
          refine a_iloadn (pc := 130) (j := 1) F dX3_weigh_130 rfl rfl ?_
          refine a_imul (pc := 131) F dX3_weigh_131 ?_
          refine a_iconst (pc := 132) F dX3_weigh_132 kc_1 ?_
          refine a_iadd (pc := 133) F dX3_weigh_133 ?_
          refine a_aloadn (pc := 134) (j := 0) F dX3_weigh_134 rfl rfl ?_
          refine a_get (pc := 135) (kb := 0) (j := 0) (f := 12) F iW_X3 rfl rfl rfl (by decide) (tl q1_99) (fun _ h => h) rfl dX3_weigh_135 ?_
          refine a_iloadn (pc := 138) (j := 1) F dX3_weigh_138 rfl rfl ?_
          obtain ⟨h9, hf⟩ := gd_some hf
          refine a_zald (pc := 139) (kb := 0) (j := 4) F rfl rfl h9 dX3_weigh_139 ?_
          refine a_join 150 (fun (t10 : Int32) => [(0, .ref (a0 0)), (1, .int x3l.1)]) (fun (t10 : Int32) => [.int t10, .int ((2 * x3l.1) + 1), .ref (a0 20)]) (fun (t10 : Int32) => [bX3 y a0 u8]) hf (fun t10 hf => ?_) (fun t10 hf J10 => ?_)
          · try dsimp only at hf ⊢
            obtain ⟨h11, hf⟩ := gd_some hf
            obtain ⟨u12, eu12, hf⟩ := nm_some hf
            refine a_iast (pc := 150) (kb := 0) (j := 11) (bs' := [bX3 y a0 u12]) F rfl rfl h11 (by rw [eu12]; rfl) dX3_weigh_150 ?_
            refine a_iinc (pc := 151) (j := 1) (v := (x3l.1 + 1)) (lv' := [(0, .ref (a0 0)), (1, .int (x3l.1 + 1))]) F [1, 0] dX3_weigh_151 rfl ki_1 (by decide) rfl ?_
            refine a_goto (pc := 154) (tgt := 87) F dX3_weigh_154 (by decide) ?_
            exact ih3 ((x3l.1 + 1), u12) hf
          · refine a_if_eq (pc := 140) (tgt := 147) F dX3_weigh_140 (by decide) (fun h => ?_) (fun h => ?_)
            · replace hf := it_pos h hf
              refine a_iconst (pc := 147) F dX3_weigh_147 kc_5 ?_
              refine a_iloadn (pc := 148) (j := 2) F dX3_weigh_148 rfl rfl ?_
              refine a_isub (pc := 149) F dX3_weigh_149 ?_
              refine a_sub [0, 1] rfl ?_
              obtain rfl := Option.some.inj hf
              exact J10
            · replace hf := it_neg h hf
              refine a_iconst (pc := 143) F dX3_weigh_143 kc_0 ?_
              refine a_goto (pc := 144) (tgt := 150) F dX3_weigh_144 (by decide) ?_
              refine a_sub [0, 1] rfl ?_
              obtain rfl := Option.some.inj hf
              exact J10
        · refine a_if_eq (pc := 114) (tgt := 121) F dX3_weigh_114 (by decide) (fun h => ?_) (fun h => ?_)
          · replace hf := it_pos h hf
            refine a_iconst (pc := 121) F dX3_weigh_121 kc_5 ?_
            refine a_iloadn (pc := 122) (j := 2) F dX3_weigh_122 rfl rfl ?_
            refine a_iadd (pc := 123) F dX3_weigh_123 ?_
            obtain rfl := Option.some.inj hf
            exact J6
          · replace hf := it_neg h hf
            refine a_iconst (pc := 117) F dX3_weigh_117 kc_0 ?_
            refine a_goto (pc := 118) (tgt := 124) F dX3_weigh_118 (by decide) ?_
            obtain rfl := Option.some.inj hf
            exact J6
    · refine a_loop 37 (fun (x13l : Int32 × St) => [(0, .ref (a0 0)), (1, .int x13l.1)]) (fun (x13l : Int32 × St) => [bX3 y a0 x13l.2]) (fun rc13 x13l ih13 hf => ?_) hf rfl rfl
      try dsimp only at hf ⊢
      refine a_iloadn (pc := 37) (j := 1) F dX3_weigh_37 rfl rfl ?_
      refine a_aloadn (pc := 38) (j := 0) F dX3_weigh_38 rfl rfl ?_
      refine a_get (pc := 39) (kb := 0) (j := 0) (f := 1) F iW_X3 rfl rfl rfl (by decide) (tl q1_69) (fun _ h => h) rfl dX3_weigh_39 ?_
      refine a_icmp_ge (pc := 42) (tgt := 85) F dX3_weigh_42 (by decide) (fun h => ?_) (fun h => ?_)
      · replace hf := it_pos h hf
        refine a_sub [0] rfl ?_
        obtain rfl := Option.some.inj hf
        exact J2
      · replace hf := it_neg h hf
        refine a_aloadn (pc := 45) (j := 0) F dX3_weigh_45 rfl rfl ?_
        refine a_get (pc := 46) (kb := 0) (j := 0) (f := 17) F iW_X3 rfl rfl rfl (by decide) (tl q1_112) (fun _ h => h) rfl dX3_weigh_46 ?_
        refine a_iloadn (pc := 49) (j := 1) F dX3_weigh_49 rfl rfl ?_
        obtain ⟨h14, hf⟩ := gd_some hf
        refine a_iald (pc := 50) (kb := 0) (j := 9) F rfl rfl h14 dX3_weigh_50 ?_
        obtain ⟨x2_15, ex2_15, hf⟩ := nm_some hf
        refine a_nmi ex2_15 ?_
        refine a_istoren (pc := 51) (lv' := [(0, .ref (a0 0)), (1, .int x13l.1), (2, .int x2_15)]) F [1, 2, 0] dX3_weigh_51 rfl (by decide) rfl ?_
        refine a_iloadn (pc := 52) (j := 2) F dX3_weigh_52 rfl rfl ?_
        refine a_join 79 (fun (t16 : St) => [(0, .ref (a0 0)), (1, .int x13l.1)]) (fun (t16 : St) => []) (fun (t16 : St) => [bX3 y a0 t16]) hf (fun t16 hf => ?_) (fun t16 hf J16 => ?_)
        · try dsimp only at hf ⊢
          refine a_iinc (pc := 79) (j := 1) (v := (x13l.1 + 1)) (lv' := [(0, .ref (a0 0)), (1, .int (x13l.1 + 1))]) F [1, 0] dX3_weigh_79 rfl ki_1 (by decide) rfl ?_
          refine a_goto (pc := 82) (tgt := 37) F dX3_weigh_82 (by decide) ?_
          exact ih13 ((x13l.1 + 1), t16) hf
        · refine a_if_lt (pc := 53) (tgt := 79) F dX3_weigh_53 (by decide) (fun h => ?_) (fun h => ?_)
          · replace hf := it_pos h hf
            refine a_sub [0, 1] rfl ?_
            obtain rfl := Option.some.inj hf
            exact J16
          · replace hf := it_neg h hf
            refine a_iloadn (pc := 56) (j := 2) F dX3_weigh_56 rfl rfl ?_
            refine a_aloadn (pc := 57) (j := 0) F dX3_weigh_57 rfl rfl ?_
            obtain ⟨t17, ht17, hf⟩ := bd_some hf
            refine a_callV (pc := 58) (bs' := [bX3 y a0 x13l.2]) (kb := 0) (j := 0) F [0] (c_X3_houses l D y ek n a0 _ _ ht17) (cwV 0 F.1.2.2.2.2 (gV q2_157 q2_158 q2_159 q1_3 q2_160) rfl rfl rfl (by decide +kernel) ⟨Nat.le_of_ble_eq_true rfl, Nat.le_of_ble_eq_true rfl⟩) rfl rfl rfl rfl (by decide) rfl rfl rfl rfl rfl rfl (Nat.le_of_ble_eq_true rfl) ⟨Nat.zero_le _, Nat.zero_le _⟩ dX3_weigh_58 ?_
            refine a_icmp_ge (pc := 61) (tgt := 79) F dX3_weigh_61 (by decide) (fun h => ?_) (fun h => ?_)
            · replace hf := it_pos h hf
              refine a_sub [0, 1] rfl ?_
              obtain rfl := Option.some.inj hf
              exact J16
            · replace hf := it_neg h hf
              refine a_aloadn (pc := 64) (j := 0) F dX3_weigh_64 rfl rfl ?_
              refine a_get (pc := 65) (kb := 0) (j := 0) (f := 18) F iW_X3 rfl rfl rfl (by decide) (tl q1_115) (fun _ h => h) rfl dX3_weigh_65 ?_
              refine a_iloadn (pc := 68) (j := 2) F dX3_weigh_68 rfl rfl ?_
              refine a_dup2 (pc := 69) F dX3_weigh_69 rfl rfl ?_
              obtain ⟨h18, hf⟩ := gd_some hf
              refine a_iald (pc := 70) (kb := 0) (j := 10) F rfl rfl h18 dX3_weigh_70 ?_
              refine a_aloadn (pc := 71) (j := 0) F dX3_weigh_71 rfl rfl ?_
              refine a_get (pc := 72) (kb := 0) (j := 0) (f := 15) F iW_X3 rfl rfl rfl (by decide) (tl q1_107) (fun _ h => h) rfl dX3_weigh_72 ?_
              refine a_iloadn (pc := 75) (j := 1) F dX3_weigh_75 rfl rfl ?_
              obtain ⟨h19, hf⟩ := gd_some hf
              refine a_iald (pc := 76) (kb := 0) (j := 7) F rfl rfl h19 dX3_weigh_76 ?_
              refine a_iadd (pc := 77) F dX3_weigh_77 ?_
              obtain ⟨h20, hf⟩ := gd_some hf
              obtain ⟨u21, eu21, hf⟩ := nm_some hf
              refine a_iast (pc := 78) (kb := 0) (j := 10) (bs' := [bX3 y a0 u21]) F rfl rfl h20 (by rw [eu21]; rfl) dX3_weigh_78 ?_
              refine a_sub [0, 1] rfl ?_
              obtain rfl := Option.some.inj hf
              exact J16
  · refine a_loop 2 (fun (x22l : Int32 × St) => [(0, .ref (a0 0)), (1, .int x22l.1)]) (fun (x22l : Int32 × St) => [bX3 y a0 x22l.2]) (fun rc22 x22l ih22 hf => ?_) hf rfl rfl
    try dsimp only at hf ⊢
    refine a_iloadn (pc := 2) (j := 1) F dX3_weigh_2 rfl rfl ?_
    refine a_aloadn (pc := 3) (j := 0) F dX3_weigh_3 rfl rfl ?_
    obtain ⟨t23, ht23, hf⟩ := bd_some hf
    refine a_callV (pc := 4) (bs' := [bX3 y a0 x22l.2]) (kb := 0) (j := 0) F [0] (c_X3_houses l D y ek n a0 _ _ ht23) (cwV 0 F.1.2.2.2.2 (gV q2_157 q2_158 q2_159 q1_3 q2_160) rfl rfl rfl (by decide +kernel) ⟨Nat.le_of_ble_eq_true rfl, Nat.le_of_ble_eq_true rfl⟩) rfl rfl rfl rfl (by decide) rfl rfl rfl rfl rfl rfl (Nat.le_of_ble_eq_true rfl) ⟨Nat.zero_le _, Nat.zero_le _⟩ dX3_weigh_4 ?_
    refine a_icmp_ge (pc := 7) (tgt := 35) F dX3_weigh_7 (by decide) (fun h => ?_) (fun h => ?_)
    · replace hf := it_pos h hf
      refine a_sub [0] rfl ?_
      obtain rfl := Option.some.inj hf
      exact J1
    · replace hf := it_neg h hf
      refine a_aloadn (pc := 10) (j := 0) F dX3_weigh_10 rfl rfl ?_
      refine a_get (pc := 11) (kb := 0) (j := 0) (f := 18) F iW_X3 rfl rfl rfl (by decide) (tl q1_115) (fun _ h => h) rfl dX3_weigh_11 ?_
      refine a_iloadn (pc := 14) (j := 1) F dX3_weigh_14 rfl rfl ?_
      refine a_aloadn (pc := 15) (j := 0) F dX3_weigh_15 rfl rfl ?_
      refine a_get (pc := 16) (kb := 0) (j := 0) (f := 2) F iW_X3 rfl rfl rfl (by decide) (tl q1_73) (fun _ h => h) rfl dX3_weigh_16 ?_
      refine a_iconst (pc := 19) F dX3_weigh_19 kc_5 ?_
      refine a_aloadn (pc := 20) (j := 0) F dX3_weigh_20 rfl rfl ?_
      refine a_get (pc := 21) (kb := 0) (j := 0) (f := 14) F iW_X3 rfl rfl rfl (by decide) (tl q1_104) (fun _ h => h) rfl dX3_weigh_21 ?_
      refine a_iloadn (pc := 24) (j := 1) F dX3_weigh_24 rfl rfl ?_
      obtain ⟨h24, hf⟩ := gd_some hf
      refine a_iald (pc := 25) (kb := 0) (j := 6) F rfl rfl h24 dX3_weigh_25 ?_
      refine a_imul (pc := 26) F dX3_weigh_26 ?_
      refine a_iadd (pc := 27) F dX3_weigh_27 ?_
      obtain ⟨h25, hf⟩ := gd_some hf
      obtain ⟨u26, eu26, hf⟩ := nm_some hf
      refine a_iast (pc := 28) (kb := 0) (j := 10) (bs' := [bX3 y a0 u26]) F rfl rfl h25 (by rw [eu26]; rfl) dX3_weigh_28 ?_
      refine a_iinc (pc := 29) (j := 1) (v := (x22l.1 + 1)) (lv' := [(0, .ref (a0 0)), (1, .int (x22l.1 + 1))]) F [1, 0] dX3_weigh_29 rfl ki_1 (by decide) rfl ?_
      refine a_goto (pc := 32) (tgt := 2) F dX3_weigh_32 (by decide) ?_
      exact ih22 ((x22l.1 + 1), u26) hf
