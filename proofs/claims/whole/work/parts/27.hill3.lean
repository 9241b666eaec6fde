abbrev wX3_paysBy : List Cond := Cond.code yX3_paysBy cX3_paysBy 3 (some .int) :: WALL
def m_X3_paysBy (n : Nat) (v0 : St) (v1 : St) (x2 : Int32) : Option (Int32 × St) :=
(if ix x2 10 then bd (m_X5_sumOf n v1 v0 312 x2) (fun t2 =>
some ((((v0 6 0) * (v0 19 (x2).toNatClampNeg)) + t2.1), t2.2)) else none)
set_option maxHeartbeats 4000000 in
set_option maxRecDepth 100000 in
theorem c_X3_paysBy (l : Launch) (D : va_G) (y : Nat → ClassId) (ek : EK) (n : Nat) (a0 : Nat → Nat) (a1 : Nat → Nat) (v0 : St) (v1 : St) (x2 : Int32) (res : Int32 × St) (hf : m_X3_paysBy n v0 v1 x2 = some res) : CI l yX3_paysBy wX3_paysBy { frames := 3, cells := 0, slots := 0, locals := 76 } D y ek [.ref (a0 0), .ref (a1 0), .int x2] [bX3 y a0 v0, bX5 y a1 v1] (res.1) [bX3 y a0 v0, bX5 y a1 res.2] 0 0 := by
  unfold m_X3_paysBy at hf
  refine ci_of (cc := cX3_paysBy) (maxL := 3) (by decide) rfl rfl (Nat.le_of_ble_eq_true rfl) ?_
  intro p e s m below meth c Q A F hret
  refine a_lv (lv' := [(0, .ref (a0 0)), (1, .ref (a1 0)), (2, .int x2)]) rfl ?_
  refine a_aloadn (pc := 0) (j := 0) F dX3_paysBy_0 rfl rfl ?_
  refine a_get (pc := 1) (kb := 0) (j := 0) (f := 6) F iW_X3 rfl rfl rfl (by decide) (tl q1_86) (fun _ h => h) rfl dX3_paysBy_1 ?_
  refine a_aloadn (pc := 4) (j := 0) F dX3_paysBy_4 rfl rfl ?_
  refine a_get (pc := 5) (kb := 0) (j := 0) (f := 19) F iW_X3 rfl rfl rfl (by decide) (tl q1_119) (fun _ h => h) rfl dX3_paysBy_5 ?_
  refine a_iloadn (pc := 8) (j := 2) F dX3_paysBy_8 rfl rfl ?_
  obtain ⟨h1, hf⟩ := gd_some hf
  refine a_iald (pc := 9) (kb := 0) (j := 11) F rfl rfl h1 dX3_paysBy_9 ?_
  refine a_imul (pc := 10) F dX3_paysBy_10 ?_
  refine a_aloadn (pc := 11) (j := 1) F dX3_paysBy_11 rfl rfl ?_
  refine a_sipush (pc := 12) F dX3_paysBy_12 ks_312 ?_
  refine a_aloadn (pc := 15) (j := 0) F dX3_paysBy_15 rfl rfl ?_
  refine a_iloadn (pc := 16) (j := 2) F dX3_paysBy_16 rfl rfl ?_
  obtain ⟨t2, ht2, hf⟩ := bd_some hf
  refine a_callV (pc := 17) (bs' := [bX3 y a0 v0, bX5 y a1 t2.2]) (kb := 1) (j := 0) F [1, 0] (c_X5_sumOf l D y ek n a1 a0 _ _ _ _ _ ht2) (cwV 3 F.1.2.2.2.2 (gV q2_206 q2_207 q2_208 q1_4 q2_209) rfl rfl rfl (by decide +kernel) ⟨Nat.le_of_ble_eq_true rfl, Nat.le_of_ble_eq_true rfl⟩) rfl rfl rfl rfl (by decide) rfl rfl rfl rfl rfl rfl (Nat.le_of_ble_eq_true rfl) ⟨Nat.zero_le _, Nat.zero_le _⟩ dX3_paysBy_17 ?_
  refine a_iadd (pc := 20) F dX3_paysBy_20 ?_
  obtain rfl := Option.some.inj hf
  exact hret _ _ _ _ (Nat.zero_le _) (Nat.zero_le _) rfl dX3_paysBy_21

abbrev wX3_luresBy : List Cond := Cond.code yX3_luresBy cX3_luresBy 3 (some .int) :: WALL
def m_X3_luresBy (n : Nat) (v0 : St) (v1 : St) (x2 : Int32) : Option (Int32 × St) :=
bd (m_X5_sumOf n v1 v0 313 x2) (fun t1 =>
bd (m_X3_worthIn n v0 x2) (fun t2 =>
some ((t1.1 + t2), t1.2)))
set_option maxHeartbeats 4000000 in
set_option maxRecDepth 100000 in
theorem c_X3_luresBy (l : Launch) (D : va_G) (y : Nat → ClassId) (ek : EK) (n : Nat) (a0 : Nat → Nat) (a1 : Nat → Nat) (v0 : St) (v1 : St) (x2 : Int32) (res : Int32 × St) (hf : m_X3_luresBy n v0 v1 x2 = some res) : CI l yX3_luresBy wX3_luresBy { frames := 3, cells := 0, slots := 0, locals := 76 } D y ek [.ref (a0 0), .ref (a1 0), .int x2] [bX3 y a0 v0, bX5 y a1 v1] (res.1) [bX3 y a0 v0, bX5 y a1 res.2] 0 0 := by
  unfold m_X3_luresBy at hf
  refine ci_of (cc := cX3_luresBy) (maxL := 3) (by decide) rfl rfl (Nat.le_of_ble_eq_true rfl) ?_
  intro p e s m below meth c Q A F hret
  refine a_lv (lv' := [(0, .ref (a0 0)), (1, .ref (a1 0)), (2, .int x2)]) rfl ?_
  refine a_aloadn (pc := 0) (j := 1) F dX3_luresBy_0 rfl rfl ?_
  refine a_sipush (pc := 1) F dX3_luresBy_1 ks_313 ?_
  refine a_aloadn (pc := 4) (j := 0) F dX3_luresBy_4 rfl rfl ?_
  refine a_iloadn (pc := 5) (j := 2) F dX3_luresBy_5 rfl rfl ?_
  obtain ⟨t1, ht1, hf⟩ := bd_some hf
  refine a_callV (pc := 6) (bs' := [bX3 y a0 v0, bX5 y a1 t1.2]) (kb := 1) (j := 0) F [1, 0] (c_X5_sumOf l D y ek n a1 a0 _ _ _ _ _ ht1) (cwV 3 F.1.2.2.2.2 (gV q2_206 q2_207 q2_208 q1_4 q2_209) rfl rfl rfl (by decide +kernel) ⟨Nat.le_of_ble_eq_true rfl, Nat.le_of_ble_eq_true rfl⟩) rfl rfl rfl rfl (by decide) rfl rfl rfl rfl rfl rfl (Nat.le_of_ble_eq_true rfl) ⟨Nat.zero_le _, Nat.zero_le _⟩ dX3_luresBy_6 ?_
  refine a_aloadn (pc := 9) (j := 0) F dX3_luresBy_9 rfl rfl ?_
  refine a_iloadn (pc := 10) (j := 2) F dX3_luresBy_10 rfl rfl ?_
  obtain ⟨t2, ht2, hf⟩ := bd_some hf
  refine a_callV (pc := 11) (bs' := [bX3 y a0 v0, bX5 y a1 t1.2]) (kb := 0) (j := 0) F [0] (c_X3_worthIn l D y ek n a0 _ _ _ ht2) (cwV 1 F.1.2.2.2.2 (gV q3_5 q3_6 q3_7 q1_3 q3_8) rfl rfl rfl (by decide +kernel) ⟨Nat.le_of_ble_eq_true rfl, Nat.le_of_ble_eq_true rfl⟩) rfl rfl rfl rfl (by decide) rfl rfl rfl rfl rfl rfl (Nat.le_of_ble_eq_true rfl) ⟨Nat.zero_le _, Nat.zero_le _⟩ dX3_luresBy_11 ?_
  refine a_iadd (pc := 14) F dX3_luresBy_14 ?_
  obtain rfl := Option.some.inj hf
  exact hret _ _ _ _ (Nat.zero_le _) (Nat.zero_le _) rfl dX3_luresBy_15

abbrev wX3_agesBy : List Cond := Cond.code yX3_agesBy cX3_agesBy 3 (some .int) :: WALL
def m_X3_agesBy (n : Nat) (v0 : St) (v1 : St) (x2 : Int32) : Option (Int32 × St) :=
bd (m_X5_sumOf n v1 v0 311 (2 * x2)) (fun t1 =>
some ((1 + t1.1), t1.2))
set_option maxHeartbeats 4000000 in
set_option maxRecDepth 100000 in
theorem c_X3_agesBy (l : Launch) (D : va_G) (y : Nat → ClassId) (ek : EK) (n : Nat) (a0 : Nat → Nat) (a1 : Nat → Nat) (v0 : St) (v1 : St) (x2 : Int32) (res : Int32 × St) (hf : m_X3_agesBy n v0 v1 x2 = some res) : CI l yX3_agesBy wX3_agesBy { frames := 3, cells := 0, slots := 0, locals := 76 } D y ek [.ref (a0 0), .ref (a1 0), .int x2] [bX3 y a0 v0, bX5 y a1 v1] (res.1) [bX3 y a0 v0, bX5 y a1 res.2] 0 0 := by
  unfold m_X3_agesBy at hf
  refine ci_of (cc := cX3_agesBy) (maxL := 3) (by decide) rfl rfl (Nat.le_of_ble_eq_true rfl) ?_
  intro p e s m below meth c Q A F hret
  refine a_lv (lv' := [(0, .ref (a0 0)), (1, .ref (a1 0)), (2, .int x2)]) rfl ?_
  refine a_iconst (pc := 0) F dX3_agesBy_0 kc_1 ?_
  refine a_aloadn (pc := 1) (j := 1) F dX3_agesBy_1 rfl rfl ?_
  refine a_sipush (pc := 2) F dX3_agesBy_2 ks_311 ?_
  refine a_aloadn (pc := 5) (j := 0) F dX3_agesBy_5 rfl rfl ?_
  refine a_iconst (pc := 6) F dX3_agesBy_6 kc_2 ?_
  refine a_iloadn (pc := 7) (j := 2) F dX3_agesBy_7 rfl rfl ?_
  refine a_imul (pc := 8) F dX3_agesBy_8 ?_
  obtain ⟨t1, ht1, hf⟩ := bd_some hf
  refine a_callV (pc := 9) (bs' := [bX3 y a0 v0, bX5 y a1 t1.2]) (kb := 1) (j := 0) F [1, 0] (c_X5_sumOf l D y ek n a1 a0 _ _ _ _ _ ht1) (cwV 3 F.1.2.2.2.2 (gV q2_206 q2_207 q2_208 q1_4 q2_209) rfl rfl rfl (by decide +kernel) ⟨Nat.le_of_ble_eq_true rfl, Nat.le_of_ble_eq_true rfl⟩) rfl rfl rfl rfl (by decide) rfl rfl rfl rfl rfl rfl (Nat.le_of_ble_eq_true rfl) ⟨Nat.zero_le _, Nat.zero_le _⟩ dX3_agesBy_9 ?_
  refine a_iadd (pc := 12) F dX3_agesBy_12 ?_
  obtain rfl := Option.some.inj hf
  exact hret _ _ _ _ (Nat.zero_le _) (Nat.zero_le _) rfl dX3_agesBy_13

abbrev wX3_payRents : List Cond := Cond.code yX3_payRents cX3_payRents 4 none :: WALL
def m_X3_payRents (n : Nat) (v0 : St) (v1 : St) (x2 : Int32) : Option (St × St) :=
(if ix x2 5 then (if (v0 12 (x2).toNatClampNeg) = 0 then
nm (2 * x2) (fun x3_2 =>
lp (fun (rc3 : Int32 × St × St → Option (St × St)) (x3l : Int32 × St × St) =>
(if ((2 * x2) + 2) ≤ x3l.1 then
some (x3l.2.1, x3l.2.2)
else
(if ix x3l.1 10 then bd (m_X3_paysBy n x3l.2.1 x3l.2.2 x3l.1) (fun t5 =>
(if ix x3l.1 10 then nm (su x3l.2.1 13 (x3l.1).toNatClampNeg (x_max 0 ((x3l.2.1 13 (x3l.1).toNatClampNeg) - t5.1))) (fun u7 =>
rc3 ((x3l.1 + 1), u7, t5.2)) else none)) else none))) n (x3_2, v0, v1))
else
some (v0, v1)) else none)
set_option maxHeartbeats 4000000 in
set_option maxRecDepth 100000 in
theorem c_X3_payRents (l : Launch) (D : va_G) (y : Nat → ClassId) (ek : EK) (n : Nat) (a0 : Nat → Nat) (a1 : Nat → Nat) (v0 : St) (v1 : St) (x2 : Int32) (res : St × St) (hf : m_X3_payRents n v0 v1 x2 = some res) : CV l yX3_payRents wX3_payRents { frames := 4, cells := 0, slots := 0, locals := 98 } D y ek [.ref (a0 0), .ref (a1 0), .int x2] [bX3 y a0 v0, bX5 y a1 v1] [bX3 y a0 res.1, bX5 y a1 res.2] 0 0 := by
  unfold m_X3_payRents at hf
  refine cv_of (cc := cX3_payRents) (maxL := 4) (by decide) rfl rfl (Nat.le_of_ble_eq_true rfl) ?_
  intro p e s m below meth c Q A F hret
  refine a_lv (lv' := [(0, .ref (a0 0)), (1, .ref (a1 0)), (2, .int x2)]) rfl ?_
  refine a_aloadn (pc := 0) (j := 0) F dX3_payRents_0 rfl rfl ?_
  refine a_get (pc := 1) (kb := 0) (j := 0) (f := 12) F iW_X3 rfl rfl rfl (by decide) (tl q1_99) (fun _ h => h) rfl dX3_payRents_1 ?_
  refine a_iloadn (pc := 4) (j := 2) F dX3_payRents_4 rfl rfl ?_
  obtain ⟨h1, hf⟩ := gd_some hf
  refine a_zald (pc := 5) (kb := 0) (j := 4) F rfl rfl h1 dX3_payRents_5 ?_
  refine a_if_eq (pc := 6) (tgt := 10) F dX3_payRents_6 (by decide) (fun h => ?_) (fun h => ?_)
  · replace hf := it_pos h hf
    refine a_iconst (pc := 10) F dX3_payRents_10 kc_2 ?_
    refine a_iloadn (pc := 11) (j := 2) F dX3_payRents_11 rfl rfl ?_
    refine a_imul (pc := 12) F dX3_payRents_12 ?_
    obtain ⟨x3_2, ex3_2, hf⟩ := nm_some hf
    refine a_nmi ex3_2 ?_
    refine a_istoren (pc := 13) (lv' := [(0, .ref (a0 0)), (1, .ref (a1 0)), (2, .int x2), (3, .int x3_2)]) F [1, 2, 3, 0] dX3_payRents_13 rfl (by decide) rfl ?_
    refine a_loop 14 (fun (x3l : Int32 × St × St) => [(0, .ref (a0 0)), (1, .ref (a1 0)), (2, .int x2), (3, .int x3l.1)]) (fun (x3l : Int32 × St × St) => [bX3 y a0 x3l.2.1, bX5 y a1 x3l.2.2]) (fun rc3 x3l ih3 hf => ?_) hf rfl rfl
    try dsimp only at hf ⊢
    refine a_iloadn (pc := 14) (j := 3) F dX3_payRents_14 rfl rfl ?_
    refine a_iconst (pc := 15) F dX3_payRents_15 kc_2 ?_
    refine a_iloadn (pc := 16) (j := 2) F dX3_payRents_16 rfl rfl ?_
    refine a_imul (pc := 17) F dX3_payRents_17 ?_
    refine a_iconst (pc := 18) F dX3_payRents_18 kc_2 ?_
    refine a_iadd (pc := 19) F dX3_payRents_19 ?_
    refine a_icmp_ge (pc := 20) (tgt := 52) F dX3_payRents_20 (by decide) (fun h => ?_) (fun h => ?_)
    · replace hf := it_pos h hf
      obtain rfl := Option.some.inj hf
      exact hret _ _ _ _ (Nat.zero_le _) (Nat.zero_le _) dX3_payRents_52
    · replace hf := it_neg h hf
      refine a_aloadn (pc := 23) (j := 0) F dX3_payRents_23 rfl rfl ?_
      refine a_get (pc := 24) (kb := 0) (j := 0) (f := 13) F iW_X3 rfl rfl rfl (by decide) (tl q1_101) (fun _ h => h) rfl dX3_payRents_24 ?_
      refine a_iloadn (pc := 27) (j := 3) F dX3_payRents_27 rfl rfl ?_
      refine a_iconst (pc := 28) F dX3_payRents_28 kc_0 ?_
      refine a_aloadn (pc := 29) (j := 0) F dX3_payRents_29 rfl rfl ?_
      refine a_get (pc := 30) (kb := 0) (j := 0) (f := 13) F iW_X3 rfl rfl rfl (by decide) (tl q1_101) (fun _ h => h) rfl dX3_payRents_30 ?_
      refine a_iloadn (pc := 33) (j := 3) F dX3_payRents_33 rfl rfl ?_
      obtain ⟨h4, hf⟩ := gd_some hf
      refine a_iald (pc := 34) (kb := 0) (j := 5) F rfl rfl h4 dX3_payRents_34 ?_
      refine a_aloadn (pc := 35) (j := 0) F dX3_payRents_35 rfl rfl ?_
      refine a_aloadn (pc := 36) (j := 1) F dX3_payRents_36 rfl rfl ?_
      refine a_iloadn (pc := 37) (j := 3) F dX3_payRents_37 rfl rfl ?_
      obtain ⟨t5, ht5, hf⟩ := bd_some hf
      refine a_callV (pc := 38) (bs' := [bX3 y a0 x3l.2.1, bX5 y a1 t5.2]) (kb := 0) (j := 0) F [0, 1] (c_X3_paysBy l D y ek n a0 a1 _ _ _ _ ht5) (cwV 2 F.1.2.2.2.2 (gV q3_25 q3_26 q3_27 q1_3 q3_28) rfl rfl rfl (by decide +kernel) ⟨Nat.le_of_ble_eq_true rfl, Nat.le_of_ble_eq_true rfl⟩) rfl rfl rfl rfl (by decide) rfl rfl rfl rfl rfl rfl (Nat.le_of_ble_eq_true rfl) ⟨Nat.zero_le _, Nat.zero_le _⟩ dX3_payRents_38 ?_
      refine a_isub (pc := 41) F dX3_payRents_41 ?_
      refine a_mmax (pc := 42) F (tl q2_172) (tl q2_173) (tl q1_22) (tl q_math_max) (Nat.le_of_ble_eq_true rfl) (Nat.le_of_ble_eq_true rfl) (Nat.zero_le _) (Nat.zero_le _) dX3_payRents_42 ?_
      obtain ⟨h6, hf⟩ := gd_some hf
      obtain ⟨u7, eu7, hf⟩ := nm_some hf
      refine a_iast (pc := 45) (kb := 0) (j := 5) (bs' := [bX3 y a0 u7, bX5 y a1 t5.2]) F rfl rfl h6 (by rw [eu7]; rfl) dX3_payRents_45 ?_
      refine a_iinc (pc := 46) (j := 3) (v := (x3l.1 + 1)) (lv' := [(0, .ref (a0 0)), (1, .ref (a1 0)), (2, .int x2), (3, .int (x3l.1 + 1))]) F [1, 2, 3, 0] dX3_payRents_46 rfl ki_1 (by decide) rfl ?_
      refine a_goto (pc := 49) (tgt := 14) F dX3_payRents_49 (by decide) ?_
      exact ih3 ((x3l.1 + 1), u7, t5.2) hf
  · replace hf := it_neg h hf
    obtain rfl := Option.some.inj hf
    exact hret _ _ _ _ (Nat.zero_le _) (Nat.zero_le _) dX3_payRents_9

abbrev wX3_luredTo : List Cond := Cond.code yX3_luredTo cX3_luredTo 7 (some .int) :: WALL
def m_X3_luredTo (n : Nat) (v0 : St) (v1 : St) (x2 : Int32) : Option (Int32 × St) :=
lp (fun (rc1 : Int32 × Int32 × Int32 × St → Option (Int32 × St)) (x1l : Int32 × Int32 × Int32 × St) =>
bd (m_X3_houses n v0) (fun t2 =>
(if t2 ≤ x1l.2.2.1 then
some (x1l.1, x1l.2.2.2)
else
bd ((if ((x_shr x2 x1l.2.2.1) &&& 1) = 0 then
bd (m_X3_luresBy n v0 x1l.2.2.2 x1l.2.2.1) (fun t4 =>
(if t4.1 ≤ x1l.2.1 then
some (x1l.1, x1l.2.1, t4.2)
else
some (x1l.2.2.1, t4.1, t4.2)))
else
some (x1l.1, x1l.2.1, x1l.2.2.2))) (fun (t3 : Int32 × Int32 × St) =>
rc1 (t3.1, t3.2.1, (x1l.2.2.1 + 1), t3.2.2))))) n ((-1), (-1), 0, v1)
set_option maxHeartbeats 4000000 in
set_option maxRecDepth 100000 in
theorem c_X3_luredTo (l : Launch) (D : va_G) (y : Nat → ClassId) (ek : EK) (n : Nat) (a0 : Nat → Nat) (a1 : Nat → Nat) (v0 : St) (v1 : St) (x2 : Int32) (res : Int32 × St) (hf : m_X3_luredTo n v0 v1 x2 = some res) : CI l yX3_luredTo wX3_luredTo { frames := 4, cells := 0, slots := 0, locals := 98 } D y ek [.ref (a0 0), .ref (a1 0), .int x2] [bX3 y a0 v0, bX5 y a1 v1] (res.1) [bX3 y a0 v0, bX5 y a1 res.2] 0 0 := by
  unfold m_X3_luredTo at hf
  refine ci_of (cc := cX3_luredTo) (maxL := 7) (by decide) rfl rfl (Nat.le_of_ble_eq_true rfl) ?_
  intro p e s m below meth c Q A F hret
  refine a_lv (lv' := [(0, .ref (a0 0)), (1, .ref (a1 0)), (2, .int x2)]) rfl ?_
  refine a_iconst (pc := 0) F dX3_luredTo_0 kc_m1 ?_
  refine a_istoren (pc := 1) (lv' := [(0, .ref (a0 0)), (1, .ref (a1 0)), (2, .int x2), (3, .int (-1))]) F [1, 2, 3, 0] dX3_luredTo_1 rfl (by decide) rfl ?_
  refine a_iconst (pc := 2) F dX3_luredTo_2 kc_m1 ?_
  refine a_istore (pc := 3) (lv' := [(0, .ref (a0 0)), (1, .ref (a1 0)), (2, .int x2), (3, .int (-1)), (4, .int (-1))]) F [1, 2, 3, 4, 0] dX3_luredTo_3 (by decide) rfl ?_
  refine a_iconst (pc := 5) F dX3_luredTo_5 kc_0 ?_
  refine a_istore (pc := 6) (lv' := [(0, .ref (a0 0)), (1, .ref (a1 0)), (2, .int x2), (3, .int (-1)), (4, .int (-1)), (5, .int 0)]) F [1, 2, 3, 4, 5, 0] dX3_luredTo_6 (by decide) rfl ?_
  refine a_loop 8 (fun (x1l : Int32 × Int32 × Int32 × St) => [(0, .ref (a0 0)), (1, .ref (a1 0)), (2, .int x2), (3, .int x1l.1), (4, .int x1l.2.1), (5, .int x1l.2.2.1)]) (fun (x1l : Int32 × Int32 × Int32 × St) => [bX3 y a0 v0, bX5 y a1 x1l.2.2.2]) (fun rc1 x1l ih1 hf => ?_) hf rfl rfl
  try dsimp only at hf ⊢
  refine a_iload (pc := 8) (j := 5) F dX3_luredTo_8 rfl ?_
  refine a_aloadn (pc := 10) (j := 0) F dX3_luredTo_10 rfl rfl ?_
  obtain ⟨t2, ht2, hf⟩ := bd_some hf
  refine a_callV (pc := 11) (bs' := [bX3 y a0 v0, bX5 y a1 x1l.2.2.2]) (kb := 0) (j := 0) F [0] (c_X3_houses l D y ek n a0 _ _ ht2) (cwV 0 F.1.2.2.2.2 (gV q2_157 q2_158 q2_159 q1_3 q2_160) rfl rfl rfl (by decide +kernel) ⟨Nat.le_of_ble_eq_true rfl, Nat.le_of_ble_eq_true rfl⟩) rfl rfl rfl rfl (by decide) rfl rfl rfl rfl rfl rfl (Nat.le_of_ble_eq_true rfl) ⟨Nat.zero_le _, Nat.zero_le _⟩ dX3_luredTo_11 ?_
  refine a_icmp_ge (pc := 14) (tgt := 58) F dX3_luredTo_14 (by decide) (fun h => ?_) (fun h => ?_)
  · replace hf := it_pos h hf
    refine a_iloadn (pc := 58) (j := 3) F dX3_luredTo_58 rfl rfl ?_
    obtain rfl := Option.some.inj hf
    exact hret _ _ _ _ (Nat.zero_le _) (Nat.zero_le _) rfl dX3_luredTo_59
  · replace hf := it_neg h hf
    refine a_iloadn (pc := 17) (j := 2) F dX3_luredTo_17 rfl rfl ?_
    refine a_iload (pc := 18) (j := 5) F dX3_luredTo_18 rfl ?_
    refine a_ishr (pc := 20) F dX3_luredTo_20 ?_
    refine a_iconst (pc := 21) F dX3_luredTo_21 kc_1 ?_
    refine a_iand (pc := 22) F dX3_luredTo_22 ?_
    refine a_join 52 (fun (t3 : Int32 × Int32 × St) => [(0, .ref (a0 0)), (1, .ref (a1 0)), (2, .int x2), (3, .int t3.1), (4, .int t3.2.1), (5, .int x1l.2.2.1)]) (fun (t3 : Int32 × Int32 × St) => []) (fun (t3 : Int32 × Int32 × St) => [bX3 y a0 v0, bX5 y a1 t3.2.2]) hf (fun t3 hf => ?_) (fun t3 hf J3 => ?_)
    · try dsimp only at hf ⊢
      refine a_iinc (pc := 52) (j := 5) (v := (x1l.2.2.1 + 1)) (lv' := [(0, .ref (a0 0)), (1, .ref (a1 0)), (2, .int x2), (3, .int t3.1), (4, .int t3.2.1), (5, .int (x1l.2.2.1 + 1))]) F [1, 2, 3, 4, 5, 0] dX3_luredTo_52 rfl ki_1 (by decide) rfl ?_
      refine a_goto (pc := 55) (tgt := 8) F dX3_luredTo_55 (by decide) ?_
      exact ih1 (t3.1, t3.2.1, (x1l.2.2.1 + 1), t3.2.2) hf
    · refine a_if_eq (pc := 23) (tgt := 29) F dX3_luredTo_23 (by decide) (fun h => ?_) (fun h => ?_)
      · replace hf := it_pos h hf
        refine a_aloadn (pc := 29) (j := 0) F dX3_luredTo_29 rfl rfl ?_
        refine a_aloadn (pc := 30) (j := 1) F dX3_luredTo_30 rfl rfl ?_
        refine a_iload (pc := 31) (j := 5) F dX3_luredTo_31 rfl ?_
        obtain ⟨t4, ht4, hf⟩ := bd_some hf
        refine a_callV (pc := 33) (bs' := [bX3 y a0 v0, bX5 y a1 t4.2]) (kb := 0) (j := 0) F [0, 1] (c_X3_luresBy l D y ek n a0 a1 _ _ _ _ ht4) (cwV 2 F.1.2.2.2.2 (gV q3_1 q3_2 q3_3 q1_3 q3_4) rfl rfl rfl (by decide +kernel) ⟨Nat.le_of_ble_eq_true rfl, Nat.le_of_ble_eq_true rfl⟩) rfl rfl rfl rfl (by decide) rfl rfl rfl rfl rfl rfl (Nat.le_of_ble_eq_true rfl) ⟨Nat.zero_le _, Nat.zero_le _⟩ dX3_luredTo_33 ?_
        refine a_istore (pc := 36) (lv' := [(0, .ref (a0 0)), (1, .ref (a1 0)), (2, .int x2), (3, .int x1l.1), (4, .int x1l.2.1), (5, .int x1l.2.2.1), (6, .int t4.1)]) F [1, 2, 3, 4, 5, 6, 0] dX3_luredTo_36 (by decide) rfl ?_
        refine a_iload (pc := 38) (j := 6) F dX3_luredTo_38 rfl ?_
        refine a_iload (pc := 40) (j := 4) F dX3_luredTo_40 rfl ?_
        refine a_icmp_le (pc := 42) (tgt := 52) F dX3_luredTo_42 (by decide) (fun h => ?_) (fun h => ?_)
        · replace hf := it_pos h hf
          refine a_sub [0, 1, 2, 3, 4, 5] rfl ?_
          obtain rfl := Option.some.inj hf
          exact J3
        · replace hf := it_neg h hf
          refine a_iload (pc := 45) (j := 5) F dX3_luredTo_45 rfl ?_
          refine a_istoren (pc := 47) (lv' := [(0, .ref (a0 0)), (1, .ref (a1 0)), (2, .int x2), (3, .int x1l.2.2.1), (4, .int x1l.2.1), (5, .int x1l.2.2.1), (6, .int t4.1)]) F [1, 2, 3, 0, 4, 5, 6] dX3_luredTo_47 rfl (by decide) rfl ?_
          refine a_iload (pc := 48) (j := 6) F dX3_luredTo_48 rfl ?_
          refine a_istore (pc := 50) (lv' := [(0, .ref (a0 0)), (1, .ref (a1 0)), (2, .int x2), (3, .int x1l.2.2.1), (4, .int t4.1), (5, .int x1l.2.2.1), (6, .int t4.1)]) F [1, 2, 3, 4, 0, 5, 6] dX3_luredTo_50 (by decide) rfl ?_
          refine a_sub [0, 1, 2, 3, 4, 5] rfl ?_
          obtain rfl := Option.some.inj hf
          exact J3
      · replace hf := it_neg h hf
        refine a_goto (pc := 26) (tgt := 52) F dX3_luredTo_26 (by decide) ?_
        obtain rfl := Option.some.inj hf
        exact J3

abbrev wX3_growOld : List Cond := Cond.code yX3_growOld cX3_growOld 3 none :: WALL
def m_X3_growOld (n : Nat) (v0 : St) (v1 : St) (x2 : Int32) : Option (St × St) :=
(if ix x2 5 then (if (v0 12 (x2).toNatClampNeg) = 0 then
(if ix x2 5 then bd (m_X3_agesBy n v0 v1 x2) (fun t3 =>
(if ix x2 5 then nm (su v0 10 (x2).toNatClampNeg (x_min 99 ((v0 10 (x2).toNatClampNeg) + t3.1))) (fun u5 =>
bd (m_X3_bearsMore n u5 x2) (fun t6 =>
(if 0 ≤ t6 then
(if ix x2 5 then nm (su u5 12 (x2).toNatClampNeg (zb 0)) (fun u8 =>
some (u8, t3.2)) else none)
else
(if ix x2 5 then nm (su u5 12 (x2).toNatClampNeg (zb 1)) (fun u10 =>
some (u10, t3.2)) else none)))) else none)) else none)
else
some (v0, v1)) else none)
set_option maxHeartbeats 4000000 in
set_option maxRecDepth 100000 in
theorem c_X3_growOld (l : Launch) (D : va_G) (y : Nat → ClassId) (ek : EK) (n : Nat) (a0 : Nat → Nat) (a1 : Nat → Nat) (v0 : St) (v1 : St) (x2 : Int32) (res : St × St) (hf : m_X3_growOld n v0 v1 x2 = some res) : CV l yX3_growOld wX3_growOld { frames := 4, cells := 0, slots := 0, locals := 98 } D y ek [.ref (a0 0), .ref (a1 0), .int x2] [bX3 y a0 v0, bX5 y a1 v1] [bX3 y a0 res.1, bX5 y a1 res.2] 0 0 := by
  unfold m_X3_growOld at hf
  refine cv_of (cc := cX3_growOld) (maxL := 3) (by decide) rfl rfl (Nat.le_of_ble_eq_true rfl) ?_
  intro p e s m below meth c Q A F hret
  refine a_lv (lv' := [(0, .ref (a0 0)), (1, .ref (a1 0)), (2, .int x2)]) rfl ?_
  refine a_aloadn (pc := 0) (j := 0) F dX3_growOld_0 rfl rfl ?_
  refine a_get (pc := 1) (kb := 0) (j := 0) (f := 12) F iW_X3 rfl rfl rfl (by decide) (tl q1_99) (fun _ h => h) rfl dX3_growOld_1 ?_
  refine a_iloadn (pc := 4) (j := 2) F dX3_growOld_4 rfl rfl ?_
  obtain ⟨h1, hf⟩ := gd_some hf
  refine a_zald (pc := 5) (kb := 0) (j := 4) F rfl rfl h1 dX3_growOld_5 ?_
  refine a_if_eq (pc := 6) (tgt := 10) F dX3_growOld_6 (by decide) (fun h => ?_) (fun h => ?_)
  · replace hf := it_pos h hf
    refine a_aloadn (pc := 10) (j := 0) F dX3_growOld_10 rfl rfl ?_
    refine a_get (pc := 11) (kb := 0) (j := 0) (f := 10) F iW_X3 rfl rfl rfl (by decide) (tl q1_95) (fun _ h => h) rfl dX3_growOld_11 ?_
    refine a_iloadn (pc := 14) (j := 2) F dX3_growOld_14 rfl rfl ?_
    refine a_bipush (pc := 15) F dX3_growOld_15 kb_99 ?_
    refine a_aloadn (pc := 17) (j := 0) F dX3_growOld_17 rfl rfl ?_
    refine a_get (pc := 18) (kb := 0) (j := 0) (f := 10) F iW_X3 rfl rfl rfl (by decide) (tl q1_95) (fun _ h => h) rfl dX3_growOld_18 ?_
    refine a_iloadn (pc := 21) (j := 2) F dX3_growOld_21 rfl rfl ?_
    obtain ⟨h2, hf⟩ := gd_some hf
    refine a_iald (pc := 22) (kb := 0) (j := 2) F rfl rfl h2 dX3_growOld_22 ?_
    refine a_aloadn (pc := 23) (j := 0) F dX3_growOld_23 rfl rfl ?_
    refine a_aloadn (pc := 24) (j := 1) F dX3_growOld_24 rfl rfl ?_
    refine a_iloadn (pc := 25) (j := 2) F dX3_growOld_25 rfl rfl ?_
    obtain ⟨t3, ht3, hf⟩ := bd_some hf
    refine a_callV (pc := 26) (bs' := [bX3 y a0 v0, bX5 y a1 t3.2]) (kb := 0) (j := 0) F [0, 1] (c_X3_agesBy l D y ek n a0 a1 _ _ _ _ ht3) (cwV 2 F.1.2.2.2.2 (gV q2_202 q2_203 q2_204 q1_3 q2_205) rfl rfl rfl (by decide +kernel) ⟨Nat.le_of_ble_eq_true rfl, Nat.le_of_ble_eq_true rfl⟩) rfl rfl rfl rfl (by decide) rfl rfl rfl rfl rfl rfl (Nat.le_of_ble_eq_true rfl) ⟨Nat.zero_le _, Nat.zero_le _⟩ dX3_growOld_26 ?_
    refine a_iadd (pc := 29) F dX3_growOld_29 ?_
    refine a_mmin (pc := 30) F (tl q2_169) (tl q2_170) (tl q1_22) (tl q_math_min) (Nat.le_of_ble_eq_true rfl) (Nat.le_of_ble_eq_true rfl) (Nat.zero_le _) (Nat.zero_le _) dX3_growOld_30 ?_
    obtain ⟨h4, hf⟩ := gd_some hf
    obtain ⟨u5, eu5, hf⟩ := nm_some hf
    refine a_iast (pc := 33) (kb := 0) (j := 2) (bs' := [bX3 y a0 u5, bX5 y a1 t3.2]) F rfl rfl h4 (by rw [eu5]; rfl) dX3_growOld_33 ?_
    refine a_aloadn (pc := 34) (j := 0) F dX3_growOld_34 rfl rfl ?_
    refine a_get (pc := 35) (kb := 0) (j := 0) (f := 12) F iW_X3 rfl rfl rfl (by decide) (tl q1_99) (fun _ h => h) rfl dX3_growOld_35 ?_
    refine a_iloadn (pc := 38) (j := 2) F dX3_growOld_38 rfl rfl ?_
    refine a_aloadn (pc := 39) (j := 0) F dX3_growOld_39 rfl rfl ?_
    refine a_iloadn (pc := 40) (j := 2) F dX3_growOld_40 rfl rfl ?_
    obtain ⟨t6, ht6, hf⟩ := bd_some hf
    refine a_callV (pc := 41) (bs' := [bX3 y a0 u5, bX5 y a1 t3.2]) (kb := 0) (j := 0) F [0] (c_X3_bearsMore l D y ek n a0 _ _ _ ht6) (cwV 1 F.1.2.2.2.2 (gV q2_224 q2_225 q2_226 q1_3 q2_227) rfl rfl rfl (by decide +kernel) ⟨Nat.le_of_ble_eq_true rfl, Nat.le_of_ble_eq_true rfl⟩) rfl rfl rfl rfl (by decide) rfl rfl rfl rfl rfl rfl (Nat.le_of_ble_eq_true rfl) ⟨Nat.zero_le _, Nat.zero_le _⟩ dX3_growOld_41 ?_
    refine a_if_ge (pc := 44) (tgt := 51) F dX3_growOld_44 (by decide) (fun h => ?_) (fun h => ?_)
    · replace hf := it_pos h hf
      refine a_iconst (pc := 51) F dX3_growOld_51 kc_0 ?_
      obtain ⟨h7, hf⟩ := gd_some hf
      obtain ⟨u8, eu8, hf⟩ := nm_some hf
      refine a_zast (pc := 52) (kb := 0) (j := 4) (bs' := [bX3 y a0 u8, bX5 y a1 t3.2]) F rfl rfl h7 (by rw [eu8]; rfl) dX3_growOld_52 ?_
      obtain rfl := Option.some.inj hf
      exact hret _ _ _ _ (Nat.zero_le _) (Nat.zero_le _) dX3_growOld_53
    · replace hf := it_neg h hf
      refine a_iconst (pc := 47) F dX3_growOld_47 kc_1 ?_
      refine a_goto (pc := 48) (tgt := 52) F dX3_growOld_48 (by decide) ?_
      obtain ⟨h9, hf⟩ := gd_some hf
      obtain ⟨u10, eu10, hf⟩ := nm_some hf
      refine a_zast (pc := 52) (kb := 0) (j := 4) (bs' := [bX3 y a0 u10, bX5 y a1 t3.2]) F rfl rfl h9 (by rw [eu10]; rfl) dX3_growOld_52 ?_
      obtain rfl := Option.some.inj hf
      exact hret _ _ _ _ (Nat.zero_le _) (Nat.zero_le _) dX3_growOld_53
  · replace hf := it_neg h hf
    obtain rfl := Option.some.inj hf
    exact hret _ _ _ _ (Nat.zero_le _) (Nat.zero_le _) dX3_growOld_9

abbrev wX3_passWeek : List Cond := Cond.code yX3_passWeek cX3_passWeek 6 (some .int) :: WALL
def m_X3_passWeek (n : Nat) (v0 : St) (v1 : St) (v2 : St) : Option (Int32 × St × St × St) :=
bd (m_X3_draw n v0) (fun t1 =>
bd ((if (t1.2 4 0) ≤ (x_rem t1.1 100) then
nm (su t1.2 2 0 ((t1.2 2 0) / 2)) (fun u20 =>
some u20)
else
bd (m_X3_draw n t1.2) (fun t21 =>
nm (su t21.2 2 0 (x_min 99 ((t1.2 2 0) + (x_rem t21.1 10)))) (fun u22 =>
some u22)))) (fun (t2 : St) =>
bd (m_X3_weigh n t2) (fun t3 =>
bd (lp (fun (rc18 : Int32 × St × St → Option (St × St)) (x18l : Int32 × St × St) =>
(if (x18l.2.1 0 0) ≤ x18l.1 then
some (x18l.2.1, x18l.2.2)
else
bd (m_X3_payRents n x18l.2.1 x18l.2.2 x18l.1) (fun t19 =>
rc18 ((x18l.1 + 1), t19.1, t19.2)))) n (0, t3, v1)) (fun (t4 : St × St) =>
bd (m_X3_draw n t4.1) (fun t5 =>
bd ((if (t5.2 5 0) ≤ (x_rem t5.1 100) then
some ((-1), t4.2)
else
bd (m_X3_luredTo n t5.2 t4.2 0) (fun t17 =>
some (t17.1, t17.2)))) (fun (t6 : Int32 × St) =>
bd (m_X3_dearestIn n t5.2 t6.1) (fun t7 =>
bd ((if t7 = (-1) then
some (t5.2, v2)
else
bd (m_X1_addRow n v2 (t5.2 7 0) t7 t6.1 (-1)) (fun t13 =>
(if ix t7 10 then nm (su t5.2 17 (t7).toNatClampNeg (-1)) (fun u15 =>
bd (m_X3_weigh n u15) (fun t16 =>
some (t16, t13))) else none)))) (fun (t8 : St × St) =>
bd (lp (fun (rc11 : Int32 × St × St → Option (St × St)) (x11l : Int32 × St × St) =>
(if (x11l.2.1 0 0) ≤ x11l.1 then
some (x11l.2.1, x11l.2.2)
else
bd (m_X3_growOld n x11l.2.1 x11l.2.2 x11l.1) (fun t12 =>
rc11 ((x11l.1 + 1), t12.1, t12.2)))) n (0, t8.1, t6.2)) (fun (t9 : St × St) =>
bd (m_X3_turnWeek n t9.1) (fun t10 =>
(if t7 = (-1) then
some (0, t10, t9.2, t8.2)
else
some (1, t10, t9.2, t8.2))))))))))))
set_option maxHeartbeats 4000000 in
set_option maxRecDepth 100000 in
theorem c_X3_passWeek (l : Launch) (D : va_G) (y : Nat → ClassId) (ek : EK) (n : Nat) (a0 : Nat → Nat) (a1 : Nat → Nat) (a2 : Nat → Nat) (v0 : St) (v1 : St) (v2 : St) (res : Int32 × St × St × St) (hf : m_X3_passWeek n v0 v1 v2 = some res) : CI l yX3_passWeek wX3_passWeek { frames := 5, cells := 0, slots := 0, locals := 124 } D y ek [.ref (a0 0), .ref (a1 0), .ref (a2 0)] [bX3 y a0 v0, bX5 y a1 v1, bX1 y a2 v2] (res.1) [bX3 y a0 res.2.1, bX5 y a1 res.2.2.1, bX1 y a2 res.2.2.2] 0 0 := by
  unfold m_X3_passWeek at hf
  refine ci_of (cc := cX3_passWeek) (maxL := 6) (by decide) rfl rfl (Nat.le_of_ble_eq_true rfl) ?_
  intro p e s m below meth c Q A F hret
  refine a_lv (lv' := [(0, .ref (a0 0)), (1, .ref (a1 0)), (2, .ref (a2 0))]) rfl ?_
  refine a_aloadn (pc := 0) (j := 0) F dX3_passWeek_0 rfl rfl ?_
  obtain ⟨t1, ht1, hf⟩ := bd_some hf
  refine a_callV (pc := 1) (bs' := [bX3 y a0 t1.2, bX5 y a1 v1, bX1 y a2 v2]) (kb := 0) (j := 0) F [0] (c_X3_draw l D y ek n a0 _ _ ht1) (cwV 0 F.1.2.2.2.2 (gV q5_55 q5_56 q5_57 q1_3 q5_58) rfl rfl rfl (by decide +kernel) ⟨Nat.le_of_ble_eq_true rfl, Nat.le_of_ble_eq_true rfl⟩) rfl rfl rfl rfl (by decide) rfl rfl rfl rfl rfl rfl (Nat.le_of_ble_eq_true rfl) ⟨Nat.zero_le _, Nat.zero_le _⟩ dX3_passWeek_1 ?_
  refine a_bipush (pc := 4) F dX3_passWeek_4 kb_100 ?_
  refine a_irem (pc := 6) F dX3_passWeek_6 (by decide) ?_
  refine a_aloadn (pc := 7) (j := 0) F dX3_passWeek_7 rfl rfl ?_
  refine a_get (pc := 8) (kb := 0) (j := 0) (f := 4) F iW_X3 rfl rfl rfl (by decide) (tl q1_80) (fun _ h => h) rfl dX3_passWeek_8 ?_
  refine a_join 48 (fun (t2 : St) => [(0, .ref (a0 0)), (1, .ref (a1 0)), (2, .ref (a2 0))]) (fun (t2 : St) => []) (fun (t2 : St) => [bX3 y a0 t2, bX5 y a1 v1, bX1 y a2 v2]) hf (fun t2 hf => ?_) (fun t2 hf J2 => ?_)
  · try dsimp only at hf ⊢
    refine a_aloadn (pc := 48) (j := 0) F dX3_passWeek_48 rfl rfl ?_
    obtain ⟨t3, ht3, hf⟩ := bd_some hf
    refine a_callVv (pc := 49) (bs' := [bX3 y a0 t3, bX5 y a1 v1, bX1 y a2 v2]) (kb := 0) (j := 0) F [0] (c_X3_weigh l D y ek n a0 _ _ ht3) (cwV 0 F.1.2.2.2.2 (gV q2_232 q2_154 q2_155 q1_3 q2_156) rfl rfl rfl (by decide +kernel) ⟨Nat.le_of_ble_eq_true rfl, Nat.le_of_ble_eq_true rfl⟩) rfl rfl rfl rfl (by decide) rfl rfl rfl rfl rfl rfl (Nat.le_of_ble_eq_true rfl) ⟨Nat.zero_le _, Nat.zero_le _⟩ dX3_passWeek_49 ?_
    refine a_iconst (pc := 52) F dX3_passWeek_52 kc_0 ?_
    refine a_istoren (pc := 53) (lv' := [(0, .ref (a0 0)), (1, .ref (a1 0)), (2, .ref (a2 0)), (3, .int 0)]) F [1, 2, 3, 0] dX3_passWeek_53 rfl (by decide) rfl ?_
    refine a_join 74 (fun (t4 : St × St) => [(0, .ref (a0 0)), (1, .ref (a1 0)), (2, .ref (a2 0))]) (fun (t4 : St × St) => []) (fun (t4 : St × St) => [bX3 y a0 t4.1, bX5 y a1 t4.2, bX1 y a2 v2]) hf (fun t4 hf => ?_) (fun t4 hf J4 => ?_)
    · try dsimp only at hf ⊢
      refine a_aloadn (pc := 74) (j := 0) F dX3_passWeek_74 rfl rfl ?_
      obtain ⟨t5, ht5, hf⟩ := bd_some hf
      refine a_callV (pc := 75) (bs' := [bX3 y a0 t5.2, bX5 y a1 t4.2, bX1 y a2 v2]) (kb := 0) (j := 0) F [0] (c_X3_draw l D y ek n a0 _ _ ht5) (cwV 0 F.1.2.2.2.2 (gV q5_55 q5_56 q5_57 q1_3 q5_58) rfl rfl rfl (by decide +kernel) ⟨Nat.le_of_ble_eq_true rfl, Nat.le_of_ble_eq_true rfl⟩) rfl rfl rfl rfl (by decide) rfl rfl rfl rfl rfl rfl (Nat.le_of_ble_eq_true rfl) ⟨Nat.zero_le _, Nat.zero_le _⟩ dX3_passWeek_75 ?_
      refine a_bipush (pc := 78) F dX3_passWeek_78 kb_100 ?_
      refine a_irem (pc := 80) F dX3_passWeek_80 (by decide) ?_
      refine a_aloadn (pc := 81) (j := 0) F dX3_passWeek_81 rfl rfl ?_
      refine a_get (pc := 82) (kb := 0) (j := 0) (f := 5) F iW_X3 rfl rfl rfl (by decide) (tl q1_83) (fun _ h => h) rfl dX3_passWeek_82 ?_
      refine a_join 98 (fun (t6 : Int32 × St) => [(0, .ref (a0 0)), (1, .ref (a1 0)), (2, .ref (a2 0))]) (fun (t6 : Int32 × St) => [.int t6.1]) (fun (t6 : Int32 × St) => [bX3 y a0 t5.2, bX5 y a1 t6.2, bX1 y a2 v2]) hf (fun t6 hf => ?_) (fun t6 hf J6 => ?_)
      · try dsimp only at hf ⊢
        refine a_istoren (pc := 98) (lv' := [(0, .ref (a0 0)), (1, .ref (a1 0)), (2, .ref (a2 0)), (3, .int t6.1)]) F [1, 2, 3, 0] dX3_passWeek_98 rfl (by decide) rfl ?_
        refine a_aloadn (pc := 99) (j := 0) F dX3_passWeek_99 rfl rfl ?_
        refine a_iloadn (pc := 100) (j := 3) F dX3_passWeek_100 rfl rfl ?_
        obtain ⟨t7, ht7, hf⟩ := bd_some hf
        refine a_callV (pc := 101) (bs' := [bX3 y a0 t5.2, bX5 y a1 t6.2, bX1 y a2 v2]) (kb := 0) (j := 0) F [0] (c_X3_dearestIn l D y ek n a0 _ _ _ ht7) (cwV 1 F.1.2.2.2.2 (gV q5_61 q5_62 q5_63 q1_3 q5_64) rfl rfl rfl (by decide +kernel) ⟨Nat.le_of_ble_eq_true rfl, Nat.le_of_ble_eq_true rfl⟩) rfl rfl rfl rfl (by decide) rfl rfl rfl rfl rfl rfl (Nat.le_of_ble_eq_true rfl) ⟨Nat.zero_le _, Nat.zero_le _⟩ dX3_passWeek_101 ?_
        refine a_istore (pc := 104) (lv' := [(0, .ref (a0 0)), (1, .ref (a1 0)), (2, .ref (a2 0)), (3, .int t6.1), (4, .int t7)]) F [1, 2, 3, 4, 0] dX3_passWeek_104 (by decide) rfl ?_
        refine a_iload (pc := 106) (j := 4) F dX3_passWeek_106 rfl ?_
        refine a_iconst (pc := 108) F dX3_passWeek_108 kc_m1 ?_
        refine a_join 136 (fun (t8 : St × St) => [(0, .ref (a0 0)), (1, .ref (a1 0)), (4, .int t7)]) (fun (t8 : St × St) => []) (fun (t8 : St × St) => [bX3 y a0 t8.1, bX5 y a1 t6.2, bX1 y a2 t8.2]) hf (fun t8 hf => ?_) (fun t8 hf J8 => ?_)
        · try dsimp only at hf ⊢
          refine a_iconst (pc := 136) F dX3_passWeek_136 kc_0 ?_
          refine a_istore (pc := 137) (lv' := [(0, .ref (a0 0)), (1, .ref (a1 0)), (4, .int t7), (5, .int 0)]) F [1, 2, 3, 0] dX3_passWeek_137 (by decide) rfl ?_
          refine a_join 161 (fun (t9 : St × St) => [(0, .ref (a0 0)), (4, .int t7)]) (fun (t9 : St × St) => []) (fun (t9 : St × St) => [bX3 y a0 t9.1, bX5 y a1 t9.2, bX1 y a2 t8.2]) hf (fun t9 hf => ?_) (fun t9 hf J9 => ?_)
          · try dsimp only at hf ⊢
            refine a_aloadn (pc := 161) (j := 0) F dX3_passWeek_161 rfl rfl ?_
            obtain ⟨t10, ht10, hf⟩ := bd_some hf
            refine a_callVv (pc := 162) (bs' := [bX3 y a0 t10, bX5 y a1 t9.2, bX1 y a2 t8.2]) (kb := 0) (j := 0) F [0] (c_X3_turnWeek l D y ek n a0 _ _ ht10) (cwV 0 F.1.2.2.2.2 (gV q5_66 q2_229 q2_230 q1_3 q2_231) rfl rfl rfl (by decide +kernel) ⟨Nat.le_of_ble_eq_true rfl, Nat.le_of_ble_eq_true rfl⟩) rfl rfl rfl rfl (by decide) rfl rfl rfl rfl rfl rfl (Nat.le_of_ble_eq_true rfl) ⟨Nat.zero_le _, Nat.zero_le _⟩ dX3_passWeek_162 ?_
            refine a_iload (pc := 165) (j := 1) F dX3_passWeek_165 rfl ?_
            refine a_iconst (pc := 167) F dX3_passWeek_167 kc_m1 ?_
            refine a_icmp_ne (pc := 168) (tgt := 175) F dX3_passWeek_168 (by decide) (fun h => ?_) (fun h => ?_)
            · replace hf := it_neg h hf
              refine a_iconst (pc := 175) F dX3_passWeek_175 kc_1 ?_
              obtain rfl := Option.some.inj hf
              exact hret _ _ _ _ (Nat.zero_le _) (Nat.zero_le _) rfl dX3_passWeek_176
            · replace hf := it_pos h hf
              refine a_iconst (pc := 171) F dX3_passWeek_171 kc_0 ?_
              refine a_goto (pc := 172) (tgt := 176) F dX3_passWeek_172 (by decide) ?_
              obtain rfl := Option.some.inj hf
              exact hret _ _ _ _ (Nat.zero_le _) (Nat.zero_le _) rfl dX3_passWeek_176
          · refine a_loop 139 (fun (x11l : Int32 × St × St) => [(0, .ref (a0 0)), (1, .ref (a1 0)), (4, .int t7), (5, .int x11l.1)]) (fun (x11l : Int32 × St × St) => [bX3 y a0 x11l.2.1, bX5 y a1 x11l.2.2, bX1 y a2 t8.2]) (fun rc11 x11l ih11 hf => ?_) hf rfl rfl
            try dsimp only at hf ⊢
            refine a_iload (pc := 139) (j := 3) F dX3_passWeek_139 rfl ?_
            refine a_aloadn (pc := 141) (j := 0) F dX3_passWeek_141 rfl rfl ?_
            refine a_get (pc := 142) (kb := 0) (j := 0) (f := 0) F iW_X3 rfl rfl rfl (by decide) (tl q1_66) (fun _ h => h) rfl dX3_passWeek_142 ?_
            refine a_icmp_ge (pc := 145) (tgt := 161) F dX3_passWeek_145 (by decide) (fun h => ?_) (fun h => ?_)
            · replace hf := it_pos h hf
              refine a_sub [0, 2] rfl ?_
              obtain rfl := Option.some.inj hf
              exact J9
            · replace hf := it_neg h hf
              refine a_aloadn (pc := 148) (j := 0) F dX3_passWeek_148 rfl rfl ?_
              refine a_aloadn (pc := 149) (j := 1) F dX3_passWeek_149 rfl rfl ?_
              refine a_iload (pc := 150) (j := 3) F dX3_passWeek_150 rfl ?_
              obtain ⟨t12, ht12, hf⟩ := bd_some hf
              refine a_callVv (pc := 152) (bs' := [bX3 y a0 t12.1, bX5 y a1 t12.2, bX1 y a2 t8.2]) (kb := 0) (j := 0) F [0, 1] (c_X3_growOld l D y ek n a0 a1 _ _ _ _ ht12) (cwV 2 F.1.2.2.2.2 (gV q3_29 q2_199 q2_200 q1_3 q2_201) rfl rfl rfl (by decide +kernel) ⟨Nat.le_of_ble_eq_true rfl, Nat.le_of_ble_eq_true rfl⟩) rfl rfl rfl rfl (by decide) rfl rfl rfl rfl rfl rfl (Nat.le_of_ble_eq_true rfl) ⟨Nat.zero_le _, Nat.zero_le _⟩ dX3_passWeek_152 ?_
              refine a_iinc (pc := 155) (j := 3) (v := (x11l.1 + 1)) (lv' := [(0, .ref (a0 0)), (1, .ref (a1 0)), (4, .int t7), (5, .int (x11l.1 + 1))]) F [1, 2, 3, 0] dX3_passWeek_155 rfl ki_1 (by decide) rfl ?_
              refine a_goto (pc := 158) (tgt := 139) F dX3_passWeek_158 (by decide) ?_
              exact ih11 ((x11l.1 + 1), t12.1, t12.2) hf
        · refine a_icmp_eq (pc := 109) (tgt := 136) F dX3_passWeek_109 (by decide) (fun h => ?_) (fun h => ?_)
          · replace hf := it_pos h hf
            refine a_sub [0, 1, 4] rfl ?_
            obtain rfl := Option.some.inj hf
            exact J8
          · replace hf := it_neg h hf
            refine a_aloadn (pc := 112) (j := 2) F dX3_passWeek_112 rfl rfl ?_
            refine a_aloadn (pc := 113) (j := 0) F dX3_passWeek_113 rfl rfl ?_
            refine a_get (pc := 114) (kb := 0) (j := 0) (f := 7) F iW_X3 rfl rfl rfl (by decide) (tl q1_89) (fun _ h => h) rfl dX3_passWeek_114 ?_
            refine a_iload (pc := 117) (j := 4) F dX3_passWeek_117 rfl ?_
            refine a_iloadn (pc := 119) (j := 3) F dX3_passWeek_119 rfl rfl ?_
            refine a_iconst (pc := 120) F dX3_passWeek_120 kc_m1 ?_
            obtain ⟨t13, ht13, hf⟩ := bd_some hf
            refine a_callVv (pc := 121) (bs' := [bX3 y a0 t5.2, bX5 y a1 t6.2, bX1 y a2 t13]) (kb := 2) (j := 0) F [2] (c_X1_addRow l D y ek n a2 _ _ _ _ _ _ ht13) (cwV 4 F.1.2.2.2.2 (gV q5_65 q5_9 q5_10 q1_5 q5_11) rfl rfl rfl (by decide +kernel) ⟨Nat.le_of_ble_eq_true rfl, Nat.le_of_ble_eq_true rfl⟩) rfl rfl rfl rfl (by decide) rfl rfl rfl rfl rfl rfl (Nat.le_of_ble_eq_true rfl) ⟨Nat.zero_le _, Nat.zero_le _⟩ dX3_passWeek_121 ?_
            refine a_aloadn (pc := 124) (j := 0) F dX3_passWeek_124 rfl rfl ?_
            refine a_get (pc := 125) (kb := 0) (j := 0) (f := 17) F iW_X3 rfl rfl rfl (by decide) (tl q1_112) (fun _ h => h) rfl dX3_passWeek_125 ?_
            refine a_iload (pc := 128) (j := 4) F dX3_passWeek_128 rfl ?_
            refine a_iconst (pc := 130) F dX3_passWeek_130 kc_m1 ?_
            obtain ⟨h14, hf⟩ := gd_some hf
            obtain ⟨u15, eu15, hf⟩ := nm_some hf
            refine a_iast (pc := 131) (kb := 0) (j := 9) (bs' := [bX3 y a0 u15, bX5 y a1 t6.2, bX1 y a2 t13]) F rfl rfl h14 (by rw [eu15]; rfl) dX3_passWeek_131 ?_
            refine a_aloadn (pc := 132) (j := 0) F dX3_passWeek_132 rfl rfl ?_
            obtain ⟨t16, ht16, hf⟩ := bd_some hf
            refine a_callVv (pc := 133) (bs' := [bX3 y a0 t16, bX5 y a1 t6.2, bX1 y a2 t13]) (kb := 0) (j := 0) F [0] (c_X3_weigh l D y ek n a0 _ _ ht16) (cwV 0 F.1.2.2.2.2 (gV q2_232 q2_154 q2_155 q1_3 q2_156) rfl rfl rfl (by decide +kernel) ⟨Nat.le_of_ble_eq_true rfl, Nat.le_of_ble_eq_true rfl⟩) rfl rfl rfl rfl (by decide) rfl rfl rfl rfl rfl rfl (Nat.le_of_ble_eq_true rfl) ⟨Nat.zero_le _, Nat.zero_le _⟩ dX3_passWeek_133 ?_
            refine a_sub [0, 1, 4] rfl ?_
            obtain rfl := Option.some.inj hf
            exact J8
      · refine a_icmp_ge (pc := 85) (tgt := 97) F dX3_passWeek_85 (by decide) (fun h => ?_) (fun h => ?_)
        · replace hf := it_pos h hf
          refine a_iconst (pc := 97) F dX3_passWeek_97 kc_m1 ?_
          obtain rfl := Option.some.inj hf
          exact J6
        · replace hf := it_neg h hf
          refine a_aloadn (pc := 88) (j := 0) F dX3_passWeek_88 rfl rfl ?_
          refine a_aloadn (pc := 89) (j := 1) F dX3_passWeek_89 rfl rfl ?_
          refine a_iconst (pc := 90) F dX3_passWeek_90 kc_0 ?_
          obtain ⟨t17, ht17, hf⟩ := bd_some hf
          refine a_callV (pc := 91) (bs' := [bX3 y a0 t5.2, bX5 y a1 t17.2, bX1 y a2 v2]) (kb := 0) (j := 0) F [0, 1] (c_X3_luredTo l D y ek n a0 a1 _ _ _ _ ht17) (cwV 2 F.1.2.2.2.2 (gV q5_60 q2_238 q2_239 q1_3 q3_0) rfl rfl rfl (by decide +kernel) ⟨Nat.le_of_ble_eq_true rfl, Nat.le_of_ble_eq_true rfl⟩) rfl rfl rfl rfl (by decide) rfl rfl rfl rfl rfl rfl (Nat.le_of_ble_eq_true rfl) ⟨Nat.zero_le _, Nat.zero_le _⟩ dX3_passWeek_91 ?_
          refine a_goto (pc := 94) (tgt := 98) F dX3_passWeek_94 (by decide) ?_
          obtain rfl := Option.some.inj hf
          exact J6
    · refine a_loop 54 (fun (x18l : Int32 × St × St) => [(0, .ref (a0 0)), (1, .ref (a1 0)), (2, .ref (a2 0)), (3, .int x18l.1)]) (fun (x18l : Int32 × St × St) => [bX3 y a0 x18l.2.1, bX5 y a1 x18l.2.2, bX1 y a2 v2]) (fun rc18 x18l ih18 hf => ?_) hf rfl rfl
      try dsimp only at hf ⊢
      refine a_iloadn (pc := 54) (j := 3) F dX3_passWeek_54 rfl rfl ?_
      refine a_aloadn (pc := 55) (j := 0) F dX3_passWeek_55 rfl rfl ?_
      refine a_get (pc := 56) (kb := 0) (j := 0) (f := 0) F iW_X3 rfl rfl rfl (by decide) (tl q1_66) (fun _ h => h) rfl dX3_passWeek_56 ?_
      refine a_icmp_ge (pc := 59) (tgt := 74) F dX3_passWeek_59 (by decide) (fun h => ?_) (fun h => ?_)
      · replace hf := it_pos h hf
        refine a_sub [0, 1, 2] rfl ?_
        obtain rfl := Option.some.inj hf
        exact J4
      · replace hf := it_neg h hf
        refine a_aloadn (pc := 62) (j := 0) F dX3_passWeek_62 rfl rfl ?_
        refine a_aloadn (pc := 63) (j := 1) F dX3_passWeek_63 rfl rfl ?_
        refine a_iloadn (pc := 64) (j := 3) F dX3_passWeek_64 rfl rfl ?_
        obtain ⟨t19, ht19, hf⟩ := bd_some hf
        refine a_callVv (pc := 65) (bs' := [bX3 y a0 t19.1, bX5 y a1 t19.2, bX1 y a2 v2]) (kb := 0) (j := 0) F [0, 1] (c_X3_payRents l D y ek n a0 a1 _ _ _ _ ht19) (cwV 2 F.1.2.2.2.2 (gV q3_21 q3_23 qs_3 q1_3 q3_24) rfl rfl rfl (by decide +kernel) ⟨Nat.le_of_ble_eq_true rfl, Nat.le_of_ble_eq_true rfl⟩) rfl rfl rfl rfl (by decide) rfl rfl rfl rfl rfl rfl (Nat.le_of_ble_eq_true rfl) ⟨Nat.zero_le _, Nat.zero_le _⟩ dX3_passWeek_65 ?_
        refine a_iinc (pc := 68) (j := 3) (v := (x18l.1 + 1)) (lv' := [(0, .ref (a0 0)), (1, .ref (a1 0)), (2, .ref (a2 0)), (3, .int (x18l.1 + 1))]) F [1, 2, 3, 0] dX3_passWeek_68 rfl ki_1 (by decide) rfl ?_
        refine a_goto (pc := 71) (tgt := 54) F dX3_passWeek_71 (by decide) ?_
        exact ih18 ((x18l.1 + 1), t19.1, t19.2) hf
  · refine a_icmp_ge (pc := 11) (tgt := 38) F dX3_passWeek_11 (by decide) (fun h => ?_) (fun h => ?_)
    · replace hf := it_pos h hf
      refine a_aloadn (pc := 38) (j := 0) F dX3_passWeek_38 rfl rfl ?_
      refine a_dup (pc := 39) F dX3_passWeek_39 rfl ?_
      refine a_get (pc := 40) (kb := 0) (j := 0) (f := 2) F iW_X3 rfl rfl rfl (by decide) (tl q1_73) (fun _ h => h) rfl dX3_passWeek_40 ?_
      refine a_iconst (pc := 43) F dX3_passWeek_43 kc_2 ?_
      refine a_idiv (pc := 44) F dX3_passWeek_44 (by decide) ?_
      obtain ⟨u20, eu20, hf⟩ := nm_some hf
      refine a_put (pc := 45) (kb := 0) (j := 0) (f := 2) (ty := .int) (bs' := [bX3 y a0 u20, bX5 y a1 v1, bX1 y a2 v2]) F iW_X3 rfl rfl rfl (by decide) (tl q1_73) (fun _ h => h) tyX3 tyX3_ok nmX3 rfl rfl rfl rfl (Nat.le_of_ble_eq_true rfl) (by rw [eu20]; rfl) dX3_passWeek_45 ?_
      obtain rfl := Option.some.inj hf
      exact J2
    · replace hf := it_neg h hf
      refine a_aloadn (pc := 14) (j := 0) F dX3_passWeek_14 rfl rfl ?_
      refine a_bipush (pc := 15) F dX3_passWeek_15 kb_99 ?_
      refine a_aloadn (pc := 17) (j := 0) F dX3_passWeek_17 rfl rfl ?_
      refine a_get (pc := 18) (kb := 0) (j := 0) (f := 2) F iW_X3 rfl rfl rfl (by decide) (tl q1_73) (fun _ h => h) rfl dX3_passWeek_18 ?_
      refine a_aloadn (pc := 21) (j := 0) F dX3_passWeek_21 rfl rfl ?_
      obtain ⟨t21, ht21, hf⟩ := bd_some hf
      refine a_callV (pc := 22) (bs' := [bX3 y a0 t21.2, bX5 y a1 v1, bX1 y a2 v2]) (kb := 0) (j := 0) F [0] (c_X3_draw l D y ek n a0 _ _ ht21) (cwV 0 F.1.2.2.2.2 (gV q5_55 q5_56 q5_57 q1_3 q5_58) rfl rfl rfl (by decide +kernel) ⟨Nat.le_of_ble_eq_true rfl, Nat.le_of_ble_eq_true rfl⟩) rfl rfl rfl rfl (by decide) rfl rfl rfl rfl rfl rfl (Nat.le_of_ble_eq_true rfl) ⟨Nat.zero_le _, Nat.zero_le _⟩ dX3_passWeek_22 ?_
      refine a_bipush (pc := 25) F dX3_passWeek_25 kb_10 ?_
      refine a_irem (pc := 27) F dX3_passWeek_27 (by decide) ?_
      refine a_iadd (pc := 28) F dX3_passWeek_28 ?_
      refine a_mmin (pc := 29) F (tl q2_169) (tl q2_170) (tl q1_22) (tl q_math_min) (Nat.le_of_ble_eq_true rfl) (Nat.le_of_ble_eq_true rfl) (Nat.zero_le _) (Nat.zero_le _) dX3_passWeek_29 ?_
      obtain ⟨u22, eu22, hf⟩ := nm_some hf
      refine a_put (pc := 32) (kb := 0) (j := 0) (f := 2) (ty := .int) (bs' := [bX3 y a0 u22, bX5 y a1 v1, bX1 y a2 v2]) F iW_X3 rfl rfl rfl (by decide) (tl q1_73) (fun _ h => h) tyX3 tyX3_ok nmX3 rfl rfl rfl rfl (Nat.le_of_ble_eq_true rfl) (by rw [eu22]; rfl) dX3_passWeek_32 ?_
      refine a_goto (pc := 35) (tgt := 48) F dX3_passWeek_35 (by decide) ?_
      obtain rfl := Option.some.inj hf
      exact J2

abbrev wX3_payAndGrowOld : List Cond := Cond.code yX3_payAndGrowOld cX3_payAndGrowOld 3 none :: WALL
def m_X3_payAndGrowOld (n : Nat) (v0 : St) (v1 : St) (x2 : Int32) : Option (St × St) :=
bd (m_X3_payRents n v0 v1 x2) (fun t1 =>
bd (m_X3_growOld n t1.1 t1.2 x2) (fun t2 =>
some (t2.1, t2.2)))
set_option maxHeartbeats 4000000 in
set_option maxRecDepth 100000 in
theorem c_X3_payAndGrowOld (l : Launch) (D : va_G) (y : Nat → ClassId) (ek : EK) (n : Nat) (a0 : Nat → Nat) (a1 : Nat → Nat) (v0 : St) (v1 : St) (x2 : Int32) (res : St × St) (hf : m_X3_payAndGrowOld n v0 v1 x2 = some res) : CV l yX3_payAndGrowOld wX3_payAndGrowOld { frames := 5, cells := 0, slots := 0, locals := 121 } D y ek [.ref (a0 0), .ref (a1 0), .int x2] [bX3 y a0 v0, bX5 y a1 v1] [bX3 y a0 res.1, bX5 y a1 res.2] 0 0 := by
  unfold m_X3_payAndGrowOld at hf
  refine cv_of (cc := cX3_payAndGrowOld) (maxL := 3) (by decide) rfl rfl (Nat.le_of_ble_eq_true rfl) ?_
  intro p e s m below meth c Q A F hret
  refine a_lv (lv' := [(0, .ref (a0 0)), (1, .ref (a1 0)), (2, .int x2)]) rfl ?_
  refine a_aloadn (pc := 0) (j := 0) F dX3_payAndGrowOld_0 rfl rfl ?_
  refine a_aloadn (pc := 1) (j := 1) F dX3_payAndGrowOld_1 rfl rfl ?_
  refine a_iloadn (pc := 2) (j := 2) F dX3_payAndGrowOld_2 rfl rfl ?_
  obtain ⟨t1, ht1, hf⟩ := bd_some hf
  refine a_callVv (pc := 3) (bs' := [bX3 y a0 t1.1, bX5 y a1 t1.2]) (kb := 0) (j := 0) F [0, 1] (c_X3_payRents l D y ek n a0 a1 _ _ _ _ ht1) (cwV 2 F.1.2.2.2.2 (gV q3_21 q3_23 qs_3 q1_3 q3_24) rfl rfl rfl (by decide +kernel) ⟨Nat.le_of_ble_eq_true rfl, Nat.le_of_ble_eq_true rfl⟩) rfl rfl rfl rfl (by decide) rfl rfl rfl rfl rfl rfl (Nat.le_of_ble_eq_true rfl) ⟨Nat.zero_le _, Nat.zero_le _⟩ dX3_payAndGrowOld_3 ?_
  refine a_aloadn (pc := 6) (j := 0) F dX3_payAndGrowOld_6 rfl rfl ?_
  refine a_aloadn (pc := 7) (j := 1) F dX3_payAndGrowOld_7 rfl rfl ?_
  refine a_iloadn (pc := 8) (j := 2) F dX3_payAndGrowOld_8 rfl rfl ?_
  obtain ⟨t2, ht2, hf⟩ := bd_some hf
  refine a_callVv (pc := 9) (bs' := [bX3 y a0 t2.1, bX5 y a1 t2.2]) (kb := 0) (j := 0) F [0, 1] (c_X3_growOld l D y ek n a0 a1 _ _ _ _ ht2) (cwV 2 F.1.2.2.2.2 (gV q3_29 q2_199 q2_200 q1_3 q2_201) rfl rfl rfl (by decide +kernel) ⟨Nat.le_of_ble_eq_true rfl, Nat.le_of_ble_eq_true rfl⟩) rfl rfl rfl rfl (by decide) rfl rfl rfl rfl rfl rfl (Nat.le_of_ble_eq_true rfl) ⟨Nat.zero_le _, Nat.zero_le _⟩ dX3_payAndGrowOld_9 ?_
  obtain rfl := Option.some.inj hf
  exact hret _ _ _ _ (Nat.zero_le _) (Nat.zero_le _) dX3_payAndGrowOld_12

abbrev wX3_stealOne : List Cond := Cond.code yX3_stealOne cX3_stealOne 4 (some .int) :: WALL
def m_X3_stealOne (n : Nat) (v0 : St) (v1 : St) (x2 : Int32) : Option (Int32 × St × St) :=
bd (m_X3_luredTo n v0 v1 x2) (fun t1 =>
bd (m_X3_dearestIn n v0 t1.1) (fun t2 =>
(if t2 = (-1) then
some (t2, v0, t1.2)
else
(if ix t2 10 then nm (su v0 17 (t2).toNatClampNeg (-1)) (fun u4 =>
bd (m_X3_weigh n u4) (fun t5 =>
some (t2, t5, t1.2))) else none))))
set_option maxHeartbeats 4000000 in
set_option maxRecDepth 100000 in
theorem c_X3_stealOne (l : Launch) (D : va_G) (y : Nat → ClassId) (ek : EK) (n : Nat) (a0 : Nat → Nat) (a1 : Nat → Nat) (v0 : St) (v1 : St) (x2 : Int32) (res : Int32 × St × St) (hf : m_X3_stealOne n v0 v1 x2 = some res) : CI l yX3_stealOne wX3_stealOne { frames := 5, cells := 0, slots := 0, locals := 124 } D y ek [.ref (a0 0), .ref (a1 0), .int x2] [bX3 y a0 v0, bX5 y a1 v1] (res.1) [bX3 y a0 res.2.1, bX5 y a1 res.2.2] 0 0 := by
  unfold m_X3_stealOne at hf
  refine ci_of (cc := cX3_stealOne) (maxL := 4) (by decide) rfl rfl (Nat.le_of_ble_eq_true rfl) ?_
  intro p e s m below meth c Q A F hret
  refine a_lv (lv' := [(0, .ref (a0 0)), (1, .ref (a1 0)), (2, .int x2)]) rfl ?_
  refine a_aloadn (pc := 0) (j := 0) F dX3_stealOne_0 rfl rfl ?_
  refine a_aloadn (pc := 1) (j := 0) F dX3_stealOne_1 rfl rfl ?_
  refine a_aloadn (pc := 2) (j := 1) F dX3_stealOne_2 rfl rfl ?_
  refine a_iloadn (pc := 3) (j := 2) F dX3_stealOne_3 rfl rfl ?_
  obtain ⟨t1, ht1, hf⟩ := bd_some hf
  refine a_callV (pc := 4) (bs' := [bX3 y a0 v0, bX5 y a1 t1.2]) (kb := 0) (j := 0) F [0, 1] (c_X3_luredTo l D y ek n a0 a1 _ _ _ _ ht1) (cwV 2 F.1.2.2.2.2 (gV q5_60 q2_238 q2_239 q1_3 q3_0) rfl rfl rfl (by decide +kernel) ⟨Nat.le_of_ble_eq_true rfl, Nat.le_of_ble_eq_true rfl⟩) rfl rfl rfl rfl (by decide) rfl rfl rfl rfl rfl rfl (Nat.le_of_ble_eq_true rfl) ⟨Nat.zero_le _, Nat.zero_le _⟩ dX3_stealOne_4 ?_
  obtain ⟨t2, ht2, hf⟩ := bd_some hf
  refine a_callV (pc := 7) (bs' := [bX3 y a0 v0, bX5 y a1 t1.2]) (kb := 0) (j := 0) F [0] (c_X3_dearestIn l D y ek n a0 _ _ _ ht2) (cwV 1 F.1.2.2.2.2 (gV q5_61 q5_62 q5_63 q1_3 q5_64) rfl rfl rfl (by decide +kernel) ⟨Nat.le_of_ble_eq_true rfl, Nat.le_of_ble_eq_true rfl⟩) rfl rfl rfl rfl (by decide) rfl rfl rfl rfl rfl rfl (Nat.le_of_ble_eq_true rfl) ⟨Nat.zero_le _, Nat.zero_le _⟩ dX3_stealOne_7 ?_
  refine a_istoren (pc := 10) (lv' := [(0, .ref (a0 0)), (1, .ref (a1 0)), (2, .int x2), (3, .int t2)]) F [1, 2, 3, 0] dX3_stealOne_10 rfl (by decide) rfl ?_
  refine a_iloadn (pc := 11) (j := 3) F dX3_stealOne_11 rfl rfl ?_
  refine a_iconst (pc := 12) F dX3_stealOne_12 kc_m1 ?_
  refine a_icmp_eq (pc := 13) (tgt := 27) F dX3_stealOne_13 (by decide) (fun h => ?_) (fun h => ?_)
  · replace hf := it_pos h hf
    refine a_iloadn (pc := 27) (j := 3) F dX3_stealOne_27 rfl rfl ?_
    obtain rfl := Option.some.inj hf
    exact hret _ _ _ _ (Nat.zero_le _) (Nat.zero_le _) rfl dX3_stealOne_28
  · replace hf := it_neg h hf
    refine a_aloadn (pc := 16) (j := 0) F dX3_stealOne_16 rfl rfl ?_
    refine a_get (pc := 17) (kb := 0) (j := 0) (f := 17) F iW_X3 rfl rfl rfl (by decide) (tl q1_112) (fun _ h => h) rfl dX3_stealOne_17 ?_
    refine a_iloadn (pc := 20) (j := 3) F dX3_stealOne_20 rfl rfl ?_
    refine a_iconst (pc := 21) F dX3_stealOne_21 kc_m1 ?_
    obtain ⟨h3, hf⟩ := gd_some hf
    obtain ⟨u4, eu4, hf⟩ := nm_some hf
    refine a_iast (pc := 22) (kb := 0) (j := 9) (bs' := [bX3 y a0 u4, bX5 y a1 t1.2]) F rfl rfl h3 (by rw [eu4]; rfl) dX3_stealOne_22 ?_
    refine a_aloadn (pc := 23) (j := 0) F dX3_stealOne_23 rfl rfl ?_
    obtain ⟨t5, ht5, hf⟩ := bd_some hf
    refine a_callVv (pc := 24) (bs' := [bX3 y a0 t5, bX5 y a1 t1.2]) (kb := 0) (j := 0) F [0] (c_X3_weigh l D y ek n a0 _ _ ht5) (cwV 0 F.1.2.2.2.2 (gV q2_232 q2_154 q2_155 q1_3 q2_156) rfl rfl rfl (by decide +kernel) ⟨Nat.le_of_ble_eq_true rfl, Nat.le_of_ble_eq_true rfl⟩) rfl rfl rfl rfl (by decide) rfl rfl rfl rfl rfl rfl (Nat.le_of_ble_eq_true rfl) ⟨Nat.zero_le _, Nat.zero_le _⟩ dX3_stealOne_24 ?_
    refine a_iloadn (pc := 27) (j := 3) F dX3_stealOne_27 rfl rfl ?_
    obtain rfl := Option.some.inj hf
    exact hret _ _ _ _ (Nat.zero_le _) (Nat.zero_le _) rfl dX3_stealOne_28
