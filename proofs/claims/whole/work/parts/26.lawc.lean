abbrev wX5_clear : List Cond := Cond.code yX5_clear cX5_clear 1 none :: WALL
def m_X5_clear (n : Nat) (v0 : St) : Option (St) :=
nm (su v0 0 0 0) (fun u1 =>
nm (su u1 5 0 0) (fun u2 =>
some u2))
set_option maxHeartbeats 4000000 in
set_option maxRecDepth 100000 in
theorem c_X5_clear (l : Launch) (D : va_G) (y : Nat → ClassId) (ek : EK) (n : Nat) (a0 : Nat → Nat) (v0 : St) (res : St) (hf : m_X5_clear n v0 = some res) : CV l yX5_clear wX5_clear { frames := 0, cells := 0, slots := 0, locals := 0 } D y ek [.ref (a0 0)] [bX5 y a0 v0] [bX5 y a0 res] 0 0 := by
  unfold m_X5_clear at hf
  refine cv_of (cc := cX5_clear) (maxL := 1) (by decide) rfl rfl (Nat.le_of_ble_eq_true rfl) ?_
  intro p e s m below meth c Q A F hret
  refine a_lv (lv' := [(0, .ref (a0 0))]) rfl ?_
  refine a_aloadn (pc := 0) (j := 0) F dX5_clear_0 rfl rfl ?_
  refine a_iconst (pc := 1) F dX5_clear_1 kc_0 ?_
  obtain ⟨u1, eu1, hf⟩ := nm_some hf
  refine a_put (pc := 2) (kb := 0) (j := 0) (f := 0) (ty := .int) (bs' := [bX5 y a0 u1]) F iW_X5 rfl rfl rfl (by decide) (tl q1_169) (fun _ h => h) tyX5 tyX5_ok nmX5 rfl rfl rfl rfl (Nat.le_of_ble_eq_true rfl) (by rw [eu1]; rfl) dX5_clear_2 ?_
  refine a_aloadn (pc := 5) (j := 0) F dX5_clear_5 rfl rfl ?_
  refine a_iconst (pc := 6) F dX5_clear_6 kc_0 ?_
  obtain ⟨u2, eu2, hf⟩ := nm_some hf
  refine a_put (pc := 7) (kb := 0) (j := 0) (f := 5) (ty := .int) (bs' := [bX5 y a0 u2]) F iW_X5 rfl rfl rfl (by decide) (tl q1_175) (fun _ h => h) tyX5 tyX5_ok nmX5 rfl rfl rfl rfl (Nat.le_of_ble_eq_true rfl) (by rw [eu2]; rfl) dX5_clear_7 ?_
  obtain rfl := Option.some.inj hf
  exact hret _ _ _ _ (Nat.zero_le _) (Nat.zero_le _) dX5_clear_10

abbrev wX5_put : List Cond := Cond.code yX5_put cX5_put 2 none :: WALL
def m_X5_put (n : Nat) (v0 : St) (x1 : Int32) : Option (St) :=
(if 400 ≤ (v0 5 0) then
some v0
else
(if ix (v0 5 0) 400 then nm (su v0 4 ((v0 5 0)).toNatClampNeg x1) (fun u2 =>
nm (su u2 5 0 ((u2 5 0) + 1)) (fun u3 =>
some u3)) else none))
set_option maxHeartbeats 4000000 in
set_option maxRecDepth 100000 in
theorem c_X5_put (l : Launch) (D : va_G) (y : Nat → ClassId) (ek : EK) (n : Nat) (a0 : Nat → Nat) (v0 : St) (x1 : Int32) (res : St) (hf : m_X5_put n v0 x1 = some res) : CV l yX5_put wX5_put { frames := 0, cells := 0, slots := 0, locals := 0 } D y ek [.ref (a0 0), .int x1] [bX5 y a0 v0] [bX5 y a0 res] 0 0 := by
  unfold m_X5_put at hf
  refine cv_of (cc := cX5_put) (maxL := 2) (by decide) rfl rfl (Nat.le_of_ble_eq_true rfl) ?_
  intro p e s m below meth c Q A F hret
  refine a_lv (lv' := [(0, .ref (a0 0)), (1, .int x1)]) rfl ?_
  refine a_aloadn (pc := 0) (j := 0) F dX5_put_0 rfl rfl ?_
  refine a_get (pc := 1) (kb := 0) (j := 0) (f := 5) F iW_X5 rfl rfl rfl (by decide) (tl q1_175) (fun _ h => h) rfl dX5_put_1 ?_
  refine a_aloadn (pc := 4) (j := 0) F dX5_put_4 rfl rfl ?_
  refine a_get (pc := 5) (kb := 0) (j := 0) (f := 4) F iW_X5 rfl rfl rfl (by decide) (tl q1_174) (fun _ h => h) rfl dX5_put_5 ?_
  refine a_alen (pc := 8) (kb := 0) (j := 4) (t0 := 0) (v := 400) F rfl rfl rfl rfl dX5_put_8 ?_
  refine a_icmp_ge (pc := 9) (tgt := 32) F dX5_put_9 (by decide) (fun h => ?_) (fun h => ?_)
  · replace hf := it_pos h hf
    obtain rfl := Option.some.inj hf
    exact hret _ _ _ _ (Nat.zero_le _) (Nat.zero_le _) dX5_put_32
  · replace hf := it_neg h hf
    refine a_aloadn (pc := 12) (j := 0) F dX5_put_12 rfl rfl ?_
    refine a_get (pc := 13) (kb := 0) (j := 0) (f := 4) F iW_X5 rfl rfl rfl (by decide) (tl q1_174) (fun _ h => h) rfl dX5_put_13 ?_
    refine a_aloadn (pc := 16) (j := 0) F dX5_put_16 rfl rfl ?_
    refine a_get (pc := 17) (kb := 0) (j := 0) (f := 5) F iW_X5 rfl rfl rfl (by decide) (tl q1_175) (fun _ h => h) rfl dX5_put_17 ?_
    refine a_iloadn (pc := 20) (j := 1) F dX5_put_20 rfl rfl ?_
    obtain ⟨h1, hf⟩ := gd_some hf
    obtain ⟨u2, eu2, hf⟩ := nm_some hf
    refine a_iast (pc := 21) (kb := 0) (j := 4) (bs' := [bX5 y a0 u2]) F rfl rfl h1 (by rw [eu2]; rfl) dX5_put_21 ?_
    refine a_aloadn (pc := 22) (j := 0) F dX5_put_22 rfl rfl ?_
    refine a_dup (pc := 23) F dX5_put_23 rfl ?_
    refine a_get (pc := 24) (kb := 0) (j := 0) (f := 5) F iW_X5 rfl rfl rfl (by decide) (tl q1_175) (fun _ h => h) rfl dX5_put_24 ?_
    refine a_iconst (pc := 27) F dX5_put_27 kc_1 ?_
    refine a_iadd (pc := 28) F dX5_put_28 ?_
    obtain ⟨u3, eu3, hf⟩ := nm_some hf
    refine a_put (pc := 29) (kb := 0) (j := 0) (f := 5) (ty := .int) (bs' := [bX5 y a0 u3]) F iW_X5 rfl rfl rfl (by decide) (tl q1_175) (fun _ h => h) tyX5 tyX5_ok nmX5 rfl rfl rfl rfl (Nat.le_of_ble_eq_true rfl) (by rw [eu3]; rfl) dX5_put_29 ?_
    obtain rfl := Option.some.inj hf
    exact hret _ _ _ _ (Nat.zero_le _) (Nat.zero_le _) dX5_put_32

abbrev wX5_addLine : List Cond := Cond.code yX5_addLine cX5_addLine 3 none :: WALL
def m_X5_addLine (n : Nat) (v0 : St) (x1 : Int32) (x2 : Int32) : Option (St) :=
(if (v0 0 0) < 0 then
some v0
else
(if 12 ≤ (v0 0 0) then
some v0
else
(if ix (v0 0 0) 12 then nm (su v0 1 ((v0 0 0)).toNatClampNeg x1) (fun u2 =>
(if ix (u2 0 0) 12 then nm (su u2 2 ((u2 0 0)).toNatClampNeg x2) (fun u4 =>
(if ix (u4 0 0) 12 then nm (su u4 3 ((u4 0 0)).toNatClampNeg (u4 5 0)) (fun u6 =>
nm (su u6 0 0 ((u6 0 0) + 1)) (fun u7 =>
some u7)) else none)) else none)) else none)))
set_option maxHeartbeats 4000000 in
set_option maxRecDepth 100000 in
theorem c_X5_addLine (l : Launch) (D : va_G) (y : Nat → ClassId) (ek : EK) (n : Nat) (a0 : Nat → Nat) (v0 : St) (x1 : Int32) (x2 : Int32) (res : St) (hf : m_X5_addLine n v0 x1 x2 = some res) : CV l yX5_addLine wX5_addLine { frames := 0, cells := 0, slots := 0, locals := 0 } D y ek [.ref (a0 0), .int x1, .int x2] [bX5 y a0 v0] [bX5 y a0 res] 0 0 := by
  unfold m_X5_addLine at hf
  refine cv_of (cc := cX5_addLine) (maxL := 3) (by decide) rfl rfl (Nat.le_of_ble_eq_true rfl) ?_
  intro p e s m below meth c Q A F hret
  refine a_lv (lv' := [(0, .ref (a0 0)), (1, .int x1), (2, .int x2)]) rfl ?_
  refine a_aloadn (pc := 0) (j := 0) F dX5_addLine_0 rfl rfl ?_
  refine a_get (pc := 1) (kb := 0) (j := 0) (f := 0) F iW_X5 rfl rfl rfl (by decide) (tl q1_169) (fun _ h => h) rfl dX5_addLine_1 ?_
  refine a_if_lt (pc := 4) (tgt := 59) F dX5_addLine_4 (by decide) (fun h => ?_) (fun h => ?_)
  · replace hf := it_pos h hf
    obtain rfl := Option.some.inj hf
    exact hret _ _ _ _ (Nat.zero_le _) (Nat.zero_le _) dX5_addLine_59
  · replace hf := it_neg h hf
    refine a_aloadn (pc := 7) (j := 0) F dX5_addLine_7 rfl rfl ?_
    refine a_get (pc := 8) (kb := 0) (j := 0) (f := 0) F iW_X5 rfl rfl rfl (by decide) (tl q1_169) (fun _ h => h) rfl dX5_addLine_8 ?_
    refine a_bipush (pc := 11) F dX5_addLine_11 kb_12 ?_
    refine a_icmp_ge (pc := 13) (tgt := 59) F dX5_addLine_13 (by decide) (fun h => ?_) (fun h => ?_)
    · replace hf := it_pos h hf
      obtain rfl := Option.some.inj hf
      exact hret _ _ _ _ (Nat.zero_le _) (Nat.zero_le _) dX5_addLine_59
    · replace hf := it_neg h hf
      refine a_aloadn (pc := 16) (j := 0) F dX5_addLine_16 rfl rfl ?_
      refine a_get (pc := 17) (kb := 0) (j := 0) (f := 1) F iW_X5 rfl rfl rfl (by decide) (tl q1_171) (fun _ h => h) rfl dX5_addLine_17 ?_
      refine a_aloadn (pc := 20) (j := 0) F dX5_addLine_20 rfl rfl ?_
      refine a_get (pc := 21) (kb := 0) (j := 0) (f := 0) F iW_X5 rfl rfl rfl (by decide) (tl q1_169) (fun _ h => h) rfl dX5_addLine_21 ?_
      refine a_iloadn (pc := 24) (j := 1) F dX5_addLine_24 rfl rfl ?_
      obtain ⟨h1, hf⟩ := gd_some hf
      obtain ⟨u2, eu2, hf⟩ := nm_some hf
      refine a_iast (pc := 25) (kb := 0) (j := 1) (bs' := [bX5 y a0 u2]) F rfl rfl h1 (by rw [eu2]; rfl) dX5_addLine_25 ?_
      refine a_aloadn (pc := 26) (j := 0) F dX5_addLine_26 rfl rfl ?_
      refine a_get (pc := 27) (kb := 0) (j := 0) (f := 2) F iW_X5 rfl rfl rfl (by decide) (tl q1_172) (fun _ h => h) rfl dX5_addLine_27 ?_
      refine a_aloadn (pc := 30) (j := 0) F dX5_addLine_30 rfl rfl ?_
      refine a_get (pc := 31) (kb := 0) (j := 0) (f := 0) F iW_X5 rfl rfl rfl (by decide) (tl q1_169) (fun _ h => h) rfl dX5_addLine_31 ?_
      refine a_iloadn (pc := 34) (j := 2) F dX5_addLine_34 rfl rfl ?_
      obtain ⟨h3, hf⟩ := gd_some hf
      obtain ⟨u4, eu4, hf⟩ := nm_some hf
      refine a_iast (pc := 35) (kb := 0) (j := 2) (bs' := [bX5 y a0 u4]) F rfl rfl h3 (by rw [eu4]; rfl) dX5_addLine_35 ?_
      refine a_aloadn (pc := 36) (j := 0) F dX5_addLine_36 rfl rfl ?_
      refine a_get (pc := 37) (kb := 0) (j := 0) (f := 3) F iW_X5 rfl rfl rfl (by decide) (tl q1_173) (fun _ h => h) rfl dX5_addLine_37 ?_
      refine a_aloadn (pc := 40) (j := 0) F dX5_addLine_40 rfl rfl ?_
      refine a_get (pc := 41) (kb := 0) (j := 0) (f := 0) F iW_X5 rfl rfl rfl (by decide) (tl q1_169) (fun _ h => h) rfl dX5_addLine_41 ?_
      refine a_aloadn (pc := 44) (j := 0) F dX5_addLine_44 rfl rfl ?_
      refine a_get (pc := 45) (kb := 0) (j := 0) (f := 5) F iW_X5 rfl rfl rfl (by decide) (tl q1_175) (fun _ h => h) rfl dX5_addLine_45 ?_
      obtain ⟨h5, hf⟩ := gd_some hf
      obtain ⟨u6, eu6, hf⟩ := nm_some hf
      refine a_iast (pc := 48) (kb := 0) (j := 3) (bs' := [bX5 y a0 u6]) F rfl rfl h5 (by rw [eu6]; rfl) dX5_addLine_48 ?_
      refine a_aloadn (pc := 49) (j := 0) F dX5_addLine_49 rfl rfl ?_
      refine a_dup (pc := 50) F dX5_addLine_50 rfl ?_
      refine a_get (pc := 51) (kb := 0) (j := 0) (f := 0) F iW_X5 rfl rfl rfl (by decide) (tl q1_169) (fun _ h => h) rfl dX5_addLine_51 ?_
      refine a_iconst (pc := 54) F dX5_addLine_54 kc_1 ?_
      refine a_iadd (pc := 55) F dX5_addLine_55 ?_
      obtain ⟨u7, eu7, hf⟩ := nm_some hf
      refine a_put (pc := 56) (kb := 0) (j := 0) (f := 0) (ty := .int) (bs' := [bX5 y a0 u7]) F iW_X5 rfl rfl rfl (by decide) (tl q1_169) (fun _ h => h) tyX5 tyX5_ok nmX5 rfl rfl rfl rfl (Nat.le_of_ble_eq_true rfl) (by rw [eu7]; rfl) dX5_addLine_56 ?_
      obtain rfl := Option.some.inj hf
      exact hret _ _ _ _ (Nat.zero_le _) (Nat.zero_le _) dX5_addLine_59

abbrev wX5_copyFrom : List Cond := Cond.code yX5_copyFrom cX5_copyFrom 2 none :: WALL
def m_X5_copyFrom (n : Nat) (v0 : St) (v1 : St) : Option (St) :=
nm (su v0 0 0 (v1 0 0)) (fun u1 =>
nm (su u1 5 0 (v1 5 0)) (fun u2 =>
nm (sA u2 1 (va_cpy (v1 1) (u2 1) 0 0 12)) (fun u3 =>
nm (sA u3 2 (va_cpy (v1 2) (u3 2) 0 0 12)) (fun u4 =>
nm (sA u4 3 (va_cpy (v1 3) (u4 3) 0 0 12)) (fun u5 =>
nm (sA u5 4 (va_cpy (v1 4) (u5 4) 0 0 400)) (fun u6 =>
some u6))))))
set_option maxHeartbeats 4000000 in
set_option maxRecDepth 100000 in
theorem c_X5_copyFrom (l : Launch) (D : va_G) (y : Nat → ClassId) (ek : EK) (n : Nat) (a0 : Nat → Nat) (a1 : Nat → Nat) (v0 : St) (v1 : St) (res : St) (hf : m_X5_copyFrom n v0 v1 = some res) : CV l yX5_copyFrom wX5_copyFrom { frames := 1, cells := 0, slots := 0, locals := 60 } D y ek [.ref (a0 0), .ref (a1 0)] [bX5 y a0 v0, bX5 y a1 v1] [bX5 y a0 res, bX5 y a1 v1] 0 0 := by
  unfold m_X5_copyFrom at hf
  refine cv_of (cc := cX5_copyFrom) (maxL := 2) (by decide) rfl rfl (Nat.le_of_ble_eq_true rfl) ?_
  intro p e s m below meth c Q A F hret
  refine a_lv (lv' := [(0, .ref (a0 0)), (1, .ref (a1 0))]) rfl ?_
  refine a_aloadn (pc := 0) (j := 0) F dX5_copyFrom_0 rfl rfl ?_
  refine a_aloadn (pc := 1) (j := 1) F dX5_copyFrom_1 rfl rfl ?_
  refine a_get (pc := 2) (kb := 1) (j := 0) (f := 0) F iW_X5 rfl rfl rfl (by decide) (tl q1_169) (fun _ h => h) rfl dX5_copyFrom_2 ?_
  obtain ⟨u1, eu1, hf⟩ := nm_some hf
  refine a_put (pc := 5) (kb := 0) (j := 0) (f := 0) (ty := .int) (bs' := [bX5 y a0 u1, bX5 y a1 v1]) F iW_X5 rfl rfl rfl (by decide) (tl q1_169) (fun _ h => h) tyX5 tyX5_ok nmX5 rfl rfl rfl rfl (Nat.le_of_ble_eq_true rfl) (by rw [eu1]; rfl) dX5_copyFrom_5 ?_
  refine a_aloadn (pc := 8) (j := 0) F dX5_copyFrom_8 rfl rfl ?_
  refine a_aloadn (pc := 9) (j := 1) F dX5_copyFrom_9 rfl rfl ?_
  refine a_get (pc := 10) (kb := 1) (j := 0) (f := 5) F iW_X5 rfl rfl rfl (by decide) (tl q1_175) (fun _ h => h) rfl dX5_copyFrom_10 ?_
  obtain ⟨u2, eu2, hf⟩ := nm_some hf
  refine a_put (pc := 13) (kb := 0) (j := 0) (f := 5) (ty := .int) (bs' := [bX5 y a0 u2, bX5 y a1 v1]) F iW_X5 rfl rfl rfl (by decide) (tl q1_175) (fun _ h => h) tyX5 tyX5_ok nmX5 rfl rfl rfl rfl (Nat.le_of_ble_eq_true rfl) (by rw [eu2]; rfl) dX5_copyFrom_13 ?_
  refine a_aloadn (pc := 16) (j := 1) F dX5_copyFrom_16 rfl rfl ?_
  refine a_get (pc := 17) (kb := 1) (j := 0) (f := 1) F iW_X5 rfl rfl rfl (by decide) (tl q1_171) (fun _ h => h) rfl dX5_copyFrom_17 ?_
  refine a_iconst (pc := 20) F dX5_copyFrom_20 kc_0 ?_
  refine a_aloadn (pc := 21) (j := 0) F dX5_copyFrom_21 rfl rfl ?_
  refine a_get (pc := 22) (kb := 0) (j := 0) (f := 1) F iW_X5 rfl rfl rfl (by decide) (tl q1_171) (fun _ h => h) rfl dX5_copyFrom_22 ?_
  refine a_iconst (pc := 25) F dX5_copyFrom_25 kc_0 ?_
  refine a_bipush (pc := 26) F dX5_copyFrom_26 kb_12 ?_
  obtain ⟨u3, eu3, hf⟩ := nm_some hf
  refine a_copy (pc := 28) (kb := 1) (j := 1) (kb1 := 0) (j1 := 1) (ks := 0) (kd := 0) (kn := 12) (bs' := [bX5 y a0 u3, bX5 y a1 v1]) F (tl q3_63) (tl q2_147) (tl q2_146) (tl q1_16) rfl rfl rfl rfl (by decide) (by decide) (by decide) (by decide) (by decide) (by decide) (Nat.le_of_ble_eq_true rfl) (Nat.le_of_ble_eq_true rfl) (Nat.le_of_ble_eq_true rfl) (Nat.le_of_ble_eq_true rfl) (by rw [eu3]; rfl) dX5_copyFrom_28 ?_
  refine a_aloadn (pc := 31) (j := 1) F dX5_copyFrom_31 rfl rfl ?_
  refine a_get (pc := 32) (kb := 1) (j := 0) (f := 2) F iW_X5 rfl rfl rfl (by decide) (tl q1_172) (fun _ h => h) rfl dX5_copyFrom_32 ?_
  refine a_iconst (pc := 35) F dX5_copyFrom_35 kc_0 ?_
  refine a_aloadn (pc := 36) (j := 0) F dX5_copyFrom_36 rfl rfl ?_
  refine a_get (pc := 37) (kb := 0) (j := 0) (f := 2) F iW_X5 rfl rfl rfl (by decide) (tl q1_172) (fun _ h => h) rfl dX5_copyFrom_37 ?_
  refine a_iconst (pc := 40) F dX5_copyFrom_40 kc_0 ?_
  refine a_bipush (pc := 41) F dX5_copyFrom_41 kb_12 ?_
  obtain ⟨u4, eu4, hf⟩ := nm_some hf
  refine a_copy (pc := 43) (kb := 1) (j := 2) (kb1 := 0) (j1 := 2) (ks := 0) (kd := 0) (kn := 12) (bs' := [bX5 y a0 u4, bX5 y a1 v1]) F (tl q3_63) (tl q2_147) (tl q2_146) (tl q1_16) rfl rfl rfl rfl (by decide) (by decide) (by decide) (by decide) (by decide) (by decide) (Nat.le_of_ble_eq_true rfl) (Nat.le_of_ble_eq_true rfl) (Nat.le_of_ble_eq_true rfl) (Nat.le_of_ble_eq_true rfl) (by rw [eu4]; rfl) dX5_copyFrom_43 ?_
  refine a_aloadn (pc := 46) (j := 1) F dX5_copyFrom_46 rfl rfl ?_
  refine a_get (pc := 47) (kb := 1) (j := 0) (f := 3) F iW_X5 rfl rfl rfl (by decide) (tl q1_173) (fun _ h => h) rfl dX5_copyFrom_47 ?_
  refine a_iconst (pc := 50) F dX5_copyFrom_50 kc_0 ?_
  refine a_aloadn (pc := 51) (j := 0) F dX5_copyFrom_51 rfl rfl ?_
  refine a_get (pc := 52) (kb := 0) (j := 0) (f := 3) F iW_X5 rfl rfl rfl (by decide) (tl q1_173) (fun _ h => h) rfl dX5_copyFrom_52 ?_
  refine a_iconst (pc := 55) F dX5_copyFrom_55 kc_0 ?_
  refine a_bipush (pc := 56) F dX5_copyFrom_56 kb_12 ?_
  obtain ⟨u5, eu5, hf⟩ := nm_some hf
  refine a_copy (pc := 58) (kb := 1) (j := 3) (kb1 := 0) (j1 := 3) (ks := 0) (kd := 0) (kn := 12) (bs' := [bX5 y a0 u5, bX5 y a1 v1]) F (tl q3_63) (tl q2_147) (tl q2_146) (tl q1_16) rfl rfl rfl rfl (by decide) (by decide) (by decide) (by decide) (by decide) (by decide) (Nat.le_of_ble_eq_true rfl) (Nat.le_of_ble_eq_true rfl) (Nat.le_of_ble_eq_true rfl) (Nat.le_of_ble_eq_true rfl) (by rw [eu5]; rfl) dX5_copyFrom_58 ?_
  refine a_aloadn (pc := 61) (j := 1) F dX5_copyFrom_61 rfl rfl ?_
  refine a_get (pc := 62) (kb := 1) (j := 0) (f := 4) F iW_X5 rfl rfl rfl (by decide) (tl q1_174) (fun _ h => h) rfl dX5_copyFrom_62 ?_
  refine a_iconst (pc := 65) F dX5_copyFrom_65 kc_0 ?_
  refine a_aloadn (pc := 66) (j := 0) F dX5_copyFrom_66 rfl rfl ?_
  refine a_get (pc := 67) (kb := 0) (j := 0) (f := 4) F iW_X5 rfl rfl rfl (by decide) (tl q1_174) (fun _ h => h) rfl dX5_copyFrom_67 ?_
  refine a_iconst (pc := 70) F dX5_copyFrom_70 kc_0 ?_
  refine a_sipush (pc := 71) F dX5_copyFrom_71 ks_400 ?_
  obtain ⟨u6, eu6, hf⟩ := nm_some hf
  refine a_copy (pc := 74) (kb := 1) (j := 4) (kb1 := 0) (j1 := 4) (ks := 0) (kd := 0) (kn := 400) (bs' := [bX5 y a0 u6, bX5 y a1 v1]) F (tl q3_63) (tl q2_147) (tl q2_146) (tl q1_16) rfl rfl rfl rfl (by decide) (by decide) (by decide) (by decide) (by decide) (by decide) (Nat.le_of_ble_eq_true rfl) (Nat.le_of_ble_eq_true rfl) (Nat.le_of_ble_eq_true rfl) (Nat.le_of_ble_eq_true rfl) (by rw [eu6]; rfl) dX5_copyFrom_74 ?_
  obtain rfl := Option.some.inj hf
  exact hret _ _ _ _ (Nat.zero_le _) (Nat.zero_le _) dX5_copyFrom_77

abbrev wX5_joins : List Cond := Cond.code yX5_joins cX5_joins 1 (some .boolean) :: WALL
def m_X5_joins (n : Nat) (x0 : Int32) : Option (Int32) :=
jn (fun (t1 : Unit) =>
some 1) (fun (K1 : Unit → Option (Int32)) =>
(if x0 = (-43) then
K1 ()
else
(if x0 = (-60) then
K1 ()
else
(if x0 = (-62) then
K1 ()
else
(if x0 = (-316) then
K1 ()
else
(if x0 = (-315) then
K1 ()
else
some 0))))))
set_option maxHeartbeats 4000000 in
set_option maxRecDepth 100000 in
theorem c_X5_joins (l : Launch) (D : va_G) (y : Nat → ClassId) (ek : EK) (n : Nat) (x0 : Int32) (res : Int32) (hf : m_X5_joins n x0 = some res) : CI l yX5_joins wX5_joins { frames := 0, cells := 0, slots := 0, locals := 0 } D y ek [.int x0] [] (res) [] 0 0 := by
  unfold m_X5_joins at hf
  refine ci_of (cc := cX5_joins) (maxL := 1) (by decide) rfl rfl (Nat.le_of_ble_eq_true rfl) ?_
  intro p e s m below meth c Q A F hret
  refine a_lv (lv' := [(0, .int x0)]) rfl ?_
  refine a_iloadn (pc := 0) (j := 0) F dX5_joins_0 rfl rfl ?_
  refine a_bipush (pc := 1) F dX5_joins_1 kb_m43 ?_
  refine a_jn 32 (fun (t1 : Unit) => []) (fun (t1 : Unit) => []) (fun (t1 : Unit) => []) hf (fun t1 hf => ?_) (fun K1 hK1 hf => ?_)
  · try dsimp only at hf ⊢
    refine a_iconst (pc := 32) F dX5_joins_32 kc_1 ?_
    refine a_goto (pc := 33) (tgt := 37) F dX5_joins_33 (by decide) ?_
    obtain rfl := Option.some.inj hf
    exact hret _ _ _ _ (Nat.zero_le _) (Nat.zero_le _) (z_nar (Or.inr rfl)) dX5_joins_37
  · try dsimp only at hf
    refine a_icmp_eq (pc := 3) (tgt := 32) F dX5_joins_3 (by decide) (fun h => ?_) (fun h => ?_)
    · replace hf := it_pos h hf
      refine a_sub [] rfl ?_
      exact hK1 () hf
    · replace hf := it_neg h hf
      refine a_iloadn (pc := 6) (j := 0) F dX5_joins_6 rfl rfl ?_
      refine a_bipush (pc := 7) F dX5_joins_7 kb_m60 ?_
      refine a_icmp_eq (pc := 9) (tgt := 32) F dX5_joins_9 (by decide) (fun h => ?_) (fun h => ?_)
      · replace hf := it_pos h hf
        refine a_sub [] rfl ?_
        exact hK1 () hf
      · replace hf := it_neg h hf
        refine a_iloadn (pc := 12) (j := 0) F dX5_joins_12 rfl rfl ?_
        refine a_bipush (pc := 13) F dX5_joins_13 kb_m62 ?_
        refine a_icmp_eq (pc := 15) (tgt := 32) F dX5_joins_15 (by decide) (fun h => ?_) (fun h => ?_)
        · replace hf := it_pos h hf
          refine a_sub [] rfl ?_
          exact hK1 () hf
        · replace hf := it_neg h hf
          refine a_iloadn (pc := 18) (j := 0) F dX5_joins_18 rfl rfl ?_
          refine a_sipush (pc := 19) F dX5_joins_19 ks_m316 ?_
          refine a_icmp_eq (pc := 22) (tgt := 32) F dX5_joins_22 (by decide) (fun h => ?_) (fun h => ?_)
          · replace hf := it_pos h hf
            refine a_sub [] rfl ?_
            exact hK1 () hf
          · replace hf := it_neg h hf
            refine a_iloadn (pc := 25) (j := 0) F dX5_joins_25 rfl rfl ?_
            refine a_sipush (pc := 26) F dX5_joins_26 ks_m315 ?_
            refine a_icmp_ne (pc := 29) (tgt := 36) F dX5_joins_29 (by decide) (fun h => ?_) (fun h => ?_)
            · replace hf := it_neg h hf
              refine a_iconst (pc := 36) F dX5_joins_36 kc_0 ?_
              obtain rfl := Option.some.inj hf
              exact hret _ _ _ _ (Nat.zero_le _) (Nat.zero_le _) (z_nar (Or.inl rfl)) dX5_joins_37
            · replace hf := it_pos h hf
              refine a_sub [] rfl ?_
              exact hK1 () hf

abbrev wX5_joined : List Cond := Cond.code yX5_joined cX5_joined 3 (some .int) :: WALL
def m_X5_joined (n : Nat) (x0 : Int32) (x1 : Int32) (x2 : Int32) : Option (Int32) :=
(if (-x0) = 43 then
some (x1 + x2)
else
(if (-x0) = 60 then
(if x2 ≤ x1 then
some 0
else
some 1)
else
(if (-x0) = 62 then
(if x1 ≤ x2 then
some 0
else
some 1)
else
(if (-x0) = 316 then
some (x1 &&& x2)
else
some (x1 ||| x2)))))
set_option maxHeartbeats 4000000 in
set_option maxRecDepth 100000 in
theorem c_X5_joined (l : Launch) (D : va_G) (y : Nat → ClassId) (ek : EK) (n : Nat) (x0 : Int32) (x1 : Int32) (x2 : Int32) (res : Int32) (hf : m_X5_joined n x0 x1 x2 = some res) : CI l yX5_joined wX5_joined { frames := 0, cells := 0, slots := 0, locals := 0 } D y ek [.int x0, .int x1, .int x2] [] (res) [] 0 0 := by
  unfold m_X5_joined at hf
  refine ci_of (cc := cX5_joined) (maxL := 3) (by decide) rfl rfl (Nat.le_of_ble_eq_true rfl) ?_
  intro p e s m below meth c Q A F hret
  refine a_lv (lv' := [(0, .int x0), (1, .int x1), (2, .int x2)]) rfl ?_
  refine a_iloadn (pc := 0) (j := 0) F dX5_joined_0 rfl rfl ?_
  refine a_ineg (pc := 1) F dX5_joined_1 ?_
  by_cases h43 : (-x0) = 43
  · replace hf := it_pos h43 hf
    refine a_lsw (pc := 2) (tgt := 44) (off := 42) F dX5_joined_2 (by decide) (by rw [h43]; decide) (by decide) ?_
    refine a_iloadn (pc := 44) (j := 1) F dX5_joined_44 rfl rfl ?_
    refine a_iloadn (pc := 45) (j := 2) F dX5_joined_45 rfl rfl ?_
    refine a_iadd (pc := 46) F dX5_joined_46 ?_
    obtain rfl := Option.some.inj hf
    exact hret _ _ _ _ (Nat.zero_le _) (Nat.zero_le _) rfl dX5_joined_47
  replace hf := it_neg h43 hf
  by_cases h60 : (-x0) = 60
  · replace hf := it_pos h60 hf
    refine a_lsw (pc := 2) (tgt := 48) (off := 46) F dX5_joined_2 (by decide) (by rw [h60]; decide) (by decide) ?_
    refine a_iloadn (pc := 48) (j := 1) F dX5_joined_48 rfl rfl ?_
    refine a_iloadn (pc := 49) (j := 2) F dX5_joined_49 rfl rfl ?_
    refine a_icmp_ge (pc := 50) (tgt := 57) F dX5_joined_50 (by decide) (fun h => ?_) (fun h => ?_)
    · replace hf := it_pos h hf
      refine a_iconst (pc := 57) F dX5_joined_57 kc_0 ?_
      obtain rfl := Option.some.inj hf
      exact hret _ _ _ _ (Nat.zero_le _) (Nat.zero_le _) rfl dX5_joined_58
    · replace hf := it_neg h hf
      refine a_iconst (pc := 53) F dX5_joined_53 kc_1 ?_
      refine a_goto (pc := 54) (tgt := 58) F dX5_joined_54 (by decide) ?_
      obtain rfl := Option.some.inj hf
      exact hret _ _ _ _ (Nat.zero_le _) (Nat.zero_le _) rfl dX5_joined_58
  replace hf := it_neg h60 hf
  by_cases h62 : (-x0) = 62
  · replace hf := it_pos h62 hf
    refine a_lsw (pc := 2) (tgt := 59) (off := 57) F dX5_joined_2 (by decide) (by rw [h62]; decide) (by decide) ?_
    refine a_iloadn (pc := 59) (j := 1) F dX5_joined_59 rfl rfl ?_
    refine a_iloadn (pc := 60) (j := 2) F dX5_joined_60 rfl rfl ?_
    refine a_icmp_le (pc := 61) (tgt := 68) F dX5_joined_61 (by decide) (fun h => ?_) (fun h => ?_)
    · replace hf := it_pos h hf
      refine a_iconst (pc := 68) F dX5_joined_68 kc_0 ?_
      obtain rfl := Option.some.inj hf
      exact hret _ _ _ _ (Nat.zero_le _) (Nat.zero_le _) rfl dX5_joined_69
    · replace hf := it_neg h hf
      refine a_iconst (pc := 64) F dX5_joined_64 kc_1 ?_
      refine a_goto (pc := 65) (tgt := 69) F dX5_joined_65 (by decide) ?_
      obtain rfl := Option.some.inj hf
      exact hret _ _ _ _ (Nat.zero_le _) (Nat.zero_le _) rfl dX5_joined_69
  replace hf := it_neg h62 hf
  by_cases h316 : (-x0) = 316
  · replace hf := it_pos h316 hf
    refine a_lsw (pc := 2) (tgt := 70) (off := 68) F dX5_joined_2 (by decide) (by rw [h316]; decide) (by decide) ?_
    refine a_iloadn (pc := 70) (j := 1) F dX5_joined_70 rfl rfl ?_
    refine a_iloadn (pc := 71) (j := 2) F dX5_joined_71 rfl rfl ?_
    refine a_iand (pc := 72) F dX5_joined_72 ?_
    obtain rfl := Option.some.inj hf
    exact hret _ _ _ _ (Nat.zero_le _) (Nat.zero_le _) rfl dX5_joined_73
  replace hf := it_neg h316 hf
  refine a_lsw (pc := 2) (tgt := 74) (off := 72) F dX5_joined_2 (by decide) (by have e43 := sw_ne 43 h43 (by decide); have e60 := sw_ne 60 h60 (by decide); have e62 := sw_ne 62 h62 (by decide); have e316 := sw_ne 316 h316 (by decide); generalize Int32.toInt (-x0) = z at e43 e60 e62 e316 ⊢; simp [Op.lookupswitch.offset, Ne.symm e43, Ne.symm e60, Ne.symm e62, Ne.symm e316]) (by decide) ?_
  refine a_iloadn (pc := 74) (j := 1) F dX5_joined_74 rfl rfl ?_
  refine a_iloadn (pc := 75) (j := 2) F dX5_joined_75 rfl rfl ?_
  refine a_ior (pc := 76) F dX5_joined_76 ?_
  obtain rfl := Option.some.inj hf
  exact hret _ _ _ _ (Nat.zero_le _) (Nat.zero_le _) rfl dX5_joined_77

abbrev wX5_holds : List Cond := Cond.code yX5_holds cX5_holds 8 (some .boolean) :: WALL
def m_X5_holds (n : Nat) (v0 : St) (v1 : St) (x1 : Int32) (x2 : Int32) (x4 : Int32) : Option (Int32 × St) :=
bd (lp (fun (rc3 : Int32 × Int32 × St → Option (Int32 × St)) (x3l : Int32 × Int32 × St) =>
(if x2 ≤ x3l.2.1 then
some (x3l.1, x3l.2.2)
else
(if ix x3l.2.1 400 then nm (x3l.2.2 4 (x3l.2.1).toNatClampNeg) (fun x7_5 =>
bd (jn (fun (t7 : Unit) =>
bd (m_X5_joins n x7_5) (fun t8 =>
jn (fun (t9 : Unit) =>
(if 64 ≤ x3l.1 then
some (x3l.1, x3l.2.2)
else
bd ((if x7_5 < 0 then
bd (m_X3_fact n v1 (-x7_5) x4) (fun t13 =>
some t13)
else
some x7_5)) (fun (t10 : Int32) =>
(if ix x3l.1 64 then nm (su x3l.2.2 6 (x3l.1).toNatClampNeg t10) (fun u12 =>
some ((x3l.1 + 1), u12)) else none)))) (fun (K9 : Unit → Option (Int32 × St)) =>
(if t8 = 0 then
K9 ()
else
(if x3l.1 ≤ 1 then
K9 ()
else
(if ix ((x3l.1 + (-1)) - 1) 64 then (if ix (x3l.1 + (-1)) 64 then bd (m_X5_joined n x7_5 (x3l.2.2 6 (((x3l.1 + (-1)) - 1)).toNatClampNeg) (x3l.2.2 6 ((x3l.1 + (-1))).toNatClampNeg)) (fun t16 =>
(if ix ((x3l.1 + (-1)) - 1) 64 then nm (su x3l.2.2 6 (((x3l.1 + (-1)) - 1)).toNatClampNeg t16) (fun u18 =>
some ((x3l.1 + (-1)), u18)) else none)) else none) else none)))))) (fun (K7 : Unit → Option (Int32 × St)) =>
(if x7_5 = (-317) then
(if x3l.1 ≤ 0 then
K7 ()
else
(if ix (x3l.1 - 1) 64 then (if ix (x3l.1 - 1) 64 then nm (su x3l.2.2 6 ((x3l.1 - 1)).toNatClampNeg (1 - (x3l.2.2 6 ((x3l.1 - 1)).toNatClampNeg))) (fun u21 =>
some (x3l.1, u21)) else none) else none))
else
K7 ()))) (fun (t6 : Int32 × St) =>
rc3 (t6.1, (x3l.2.1 + 1), t6.2))) else none))) n (0, x1, v0)) (fun (t1 : Int32 × St) =>
jn (fun (t2 : Unit) =>
some (1, t1.2)) (fun (K2 : Unit → Option (Int32 × St)) =>
(if t1.1 = 0 then
K2 ()
else
(if (t1.2 6 0) = 0 then
some (0, t1.2)
else
K2 ()))))
set_option maxHeartbeats 4000000 in
set_option maxRecDepth 100000 in
theorem c_X5_holds (l : Launch) (D : va_G) (y : Nat → ClassId) (ek : EK) (n : Nat) (a0 : Nat → Nat) (a1 : Nat → Nat) (v0 : St) (v1 : St) (x1 : Int32) (x2 : Int32) (x4 : Int32) (res : Int32 × St) (hf : m_X5_holds n v0 v1 x1 x2 x4 = some res) : CI l yX5_holds wX5_holds { frames := 1, cells := 0, slots := 0, locals := 22 } D y ek [.ref (a0 0), .int x1, .int x2, .ref (a1 0), .int x4] [bX5 y a0 v0, bX3 y a1 v1] (res.1) [bX5 y a0 res.2, bX3 y a1 v1] 0 0 := by
  unfold m_X5_holds at hf
  refine ci_of (cc := cX5_holds) (maxL := 8) (by decide) rfl rfl (Nat.le_of_ble_eq_true rfl) ?_
  intro p e s m below meth c Q A F hret
  refine a_lv (lv' := [(0, .ref (a0 0)), (1, .int x1), (2, .int x2), (3, .ref (a1 0)), (4, .int x4)]) rfl ?_
  refine a_iconst (pc := 0) F dX5_holds_0 kc_0 ?_
  refine a_istore (pc := 1) (lv' := [(0, .ref (a0 0)), (1, .int x1), (2, .int x2), (3, .ref (a1 0)), (4, .int x4), (5, .int 0)]) F [1, 2, 3, 4, 5, 0] dX5_holds_1 (by decide) rfl ?_
  refine a_iloadn (pc := 3) (j := 1) F dX5_holds_3 rfl rfl ?_
  refine a_istore (pc := 4) (lv' := [(0, .ref (a0 0)), (1, .int x1), (2, .int x2), (3, .ref (a1 0)), (4, .int x4), (5, .int 0), (6, .int x1)]) F [1, 2, 3, 4, 5, 6, 0] dX5_holds_4 (by decide) rfl ?_
  refine a_join 149 (fun (t1 : Int32 × St) => [(0, .ref (a0 0)), (5, .int t1.1)]) (fun (t1 : Int32 × St) => []) (fun (t1 : Int32 × St) => [bX5 y a0 t1.2, bX3 y a1 v1]) hf (fun t1 hf => ?_) (fun t1 hf J1 => ?_)
  · try dsimp only at hf ⊢
    refine a_iload (pc := 149) (j := 1) F dX5_holds_149 rfl ?_
    refine a_jn 163 (fun (t2 : Unit) => []) (fun (t2 : Unit) => []) (fun (t2 : Unit) => [bX5 y a0 t1.2, bX3 y a1 v1]) hf (fun t2 hf => ?_) (fun K2 hK2 hf => ?_)
    · try dsimp only at hf ⊢
      refine a_iconst (pc := 163) F dX5_holds_163 kc_1 ?_
      refine a_goto (pc := 164) (tgt := 168) F dX5_holds_164 (by decide) ?_
      obtain rfl := Option.some.inj hf
      exact hret _ _ _ _ (Nat.zero_le _) (Nat.zero_le _) (z_nar (Or.inr rfl)) dX5_holds_168
    · try dsimp only at hf
      refine a_if_eq (pc := 151) (tgt := 163) F dX5_holds_151 (by decide) (fun h => ?_) (fun h => ?_)
      · replace hf := it_pos h hf
        refine a_sub [] rfl ?_
        exact hK2 () hf
      · replace hf := it_neg h hf
        refine a_aloadn (pc := 154) (j := 0) F dX5_holds_154 rfl rfl ?_
        refine a_get (pc := 155) (kb := 0) (j := 0) (f := 6) F iW_X5 rfl rfl rfl (by decide) (tl q1_176) (fun _ h => h) rfl dX5_holds_155 ?_
        refine a_iconst (pc := 158) F dX5_holds_158 kc_0 ?_
        refine a_ialdc (pc := 159) (kb := 0) (j := 5) (k := 0) F rfl rfl (by decide) (by decide) dX5_holds_159 ?_
        refine a_if_eq (pc := 160) (tgt := 167) F dX5_holds_160 (by decide) (fun h => ?_) (fun h => ?_)
        · replace hf := it_pos h hf
          refine a_iconst (pc := 167) F dX5_holds_167 kc_0 ?_
          obtain rfl := Option.some.inj hf
          exact hret _ _ _ _ (Nat.zero_le _) (Nat.zero_le _) (z_nar (Or.inl rfl)) dX5_holds_168
        · replace hf := it_neg h hf
          refine a_sub [] rfl ?_
          exact hK2 () hf
  · refine a_sub [0, 2, 3, 4, 5, 6] rfl ?_
    refine a_loop 6 (fun (x3l : Int32 × Int32 × St) => [(0, .ref (a0 0)), (2, .int x2), (3, .ref (a1 0)), (4, .int x4), (5, .int x3l.1), (6, .int x3l.2.1)]) (fun (x3l : Int32 × Int32 × St) => [bX5 y a0 x3l.2.2, bX3 y a1 v1]) (fun rc3 x3l ih3 hf => ?_) hf rfl rfl
    try dsimp only at hf ⊢
    refine a_iload (pc := 6) (j := 5) F dX5_holds_6 rfl ?_
    refine a_iloadn (pc := 8) (j := 1) F dX5_holds_8 rfl rfl ?_
    refine a_icmp_ge (pc := 9) (tgt := 149) F dX5_holds_9 (by decide) (fun h => ?_) (fun h => ?_)
    · replace hf := it_pos h hf
      refine a_sub [0, 4] rfl ?_
      obtain rfl := Option.some.inj hf
      exact J1
    · replace hf := it_neg h hf
      refine a_aloadn (pc := 12) (j := 0) F dX5_holds_12 rfl rfl ?_
      refine a_get (pc := 13) (kb := 0) (j := 0) (f := 4) F iW_X5 rfl rfl rfl (by decide) (tl q1_174) (fun _ h => h) rfl dX5_holds_13 ?_
      refine a_iload (pc := 16) (j := 5) F dX5_holds_16 rfl ?_
      obtain ⟨h4, hf⟩ := gd_some hf
      refine a_iald (pc := 18) (kb := 0) (j := 4) F rfl rfl h4 dX5_holds_18 ?_
      obtain ⟨x7_5, ex7_5, hf⟩ := nm_some hf
      refine a_nmi ex7_5 ?_
      refine a_istore (pc := 19) (lv' := [(0, .ref (a0 0)), (2, .int x2), (3, .ref (a1 0)), (4, .int x4), (5, .int x3l.1), (6, .int x3l.2.1), (7, .int x7_5)]) F [1, 2, 3, 4, 5, 6, 0] dX5_holds_19 (by decide) rfl ?_
      refine a_iload (pc := 21) (j := 6) F dX5_holds_21 rfl ?_
      refine a_sipush (pc := 23) F dX5_holds_23 ks_m317 ?_
      refine a_join 143 (fun (t6 : Int32 × St) => [(0, .ref (a0 0)), (2, .int x2), (3, .ref (a1 0)), (4, .int x4), (5, .int t6.1), (6, .int x3l.2.1)]) (fun (t6 : Int32 × St) => []) (fun (t6 : Int32 × St) => [bX5 y a0 t6.2, bX3 y a1 v1]) hf (fun t6 hf => ?_) (fun t6 hf J6 => ?_)
      · try dsimp only at hf ⊢
        refine a_iinc (pc := 143) (j := 5) (v := (x3l.2.1 + 1)) (lv' := [(0, .ref (a0 0)), (2, .int x2), (3, .ref (a1 0)), (4, .int x4), (5, .int t6.1), (6, .int (x3l.2.1 + 1))]) F [1, 2, 3, 4, 5, 0] dX5_holds_143 rfl ki_1 (by decide) rfl ?_
        refine a_goto (pc := 146) (tgt := 6) F dX5_holds_146 (by decide) ?_
        exact ih3 (t6.1, (x3l.2.1 + 1), t6.2) hf
      · refine a_jn 57 (fun (t7 : Unit) => [(0, .ref (a0 0)), (2, .int x2), (3, .ref (a1 0)), (4, .int x4), (5, .int x3l.1), (6, .int x3l.2.1), (7, .int x7_5)]) (fun (t7 : Unit) => []) (fun (t7 : Unit) => [bX5 y a0 x3l.2.2, bX3 y a1 v1]) hf (fun t7 hf => ?_) (fun K7 hK7 hf => ?_)
        · try dsimp only at hf ⊢
          refine a_iload (pc := 57) (j := 6) F dX5_holds_57 rfl ?_
          obtain ⟨t8, ht8, hf⟩ := bd_some hf
          refine a_callS (pc := 59) (bs' := [bX5 y a0 x3l.2.2, bX3 y a1 v1]) F [] (c_X5_joins l D y ek n  _ _ ht8) (va_cwS 1 F.1.2.2.2.2 (gS q2_214 q2_215 q1_4 q2_216) rfl rfl rfl (by decide +kernel) ⟨Nat.le_of_ble_eq_true rfl, Nat.le_of_ble_eq_true rfl⟩) (by decide) rfl rfl rfl rfl rfl rfl (Nat.le_of_ble_eq_true rfl) ⟨Nat.zero_le _, Nat.zero_le _⟩ dX5_holds_59 ?_
          refine a_jn 107 (fun (t9 : Unit) => [(0, .ref (a0 0)), (2, .int x2), (3, .ref (a1 0)), (4, .int x4), (5, .int x3l.1), (6, .int x3l.2.1), (7, .int x7_5)]) (fun (t9 : Unit) => []) (fun (t9 : Unit) => [bX5 y a0 x3l.2.2, bX3 y a1 v1]) hf (fun t9 hf => ?_) (fun K9 hK9 hf => ?_)
          · try dsimp only at hf ⊢
            refine a_iload (pc := 107) (j := 4) F dX5_holds_107 rfl ?_
            refine a_bipush (pc := 109) F dX5_holds_109 kb_64 ?_
            refine a_icmp_ge (pc := 111) (tgt := 143) F dX5_holds_111 (by decide) (fun h => ?_) (fun h => ?_)
            · replace hf := it_pos h hf
              refine a_sub [0, 1, 2, 3, 4, 5] rfl ?_
              obtain rfl := Option.some.inj hf
              exact J6
            · replace hf := it_neg h hf
              refine a_aloadn (pc := 114) (j := 0) F dX5_holds_114 rfl rfl ?_
              refine a_get (pc := 115) (kb := 0) (j := 0) (f := 6) F iW_X5 rfl rfl rfl (by decide) (tl q1_176) (fun _ h => h) rfl dX5_holds_115 ?_
              refine a_iload (pc := 118) (j := 4) F dX5_holds_118 rfl ?_
              refine a_iload (pc := 120) (j := 6) F dX5_holds_120 rfl ?_
              refine a_join 139 (fun (t10 : Int32) => [(0, .ref (a0 0)), (2, .int x2), (3, .ref (a1 0)), (4, .int x4), (5, .int x3l.1), (6, .int x3l.2.1)]) (fun (t10 : Int32) => [.int t10, .int x3l.1, .ref (a0 7)]) (fun (t10 : Int32) => [bX5 y a0 x3l.2.2, bX3 y a1 v1]) hf (fun t10 hf => ?_) (fun t10 hf J10 => ?_)
              · try dsimp only at hf ⊢
                obtain ⟨h11, hf⟩ := gd_some hf
                obtain ⟨u12, eu12, hf⟩ := nm_some hf
                refine a_iast (pc := 139) (kb := 0) (j := 5) (bs' := [bX5 y a0 u12, bX3 y a1 v1]) F rfl rfl h11 (by rw [eu12]; rfl) dX5_holds_139 ?_
                refine a_iinc (pc := 140) (j := 4) (v := (x3l.1 + 1)) (lv' := [(0, .ref (a0 0)), (2, .int x2), (3, .ref (a1 0)), (4, .int x4), (5, .int (x3l.1 + 1)), (6, .int x3l.2.1)]) F [1, 2, 3, 4, 0, 5] dX5_holds_140 rfl ki_1 (by decide) rfl ?_
                obtain rfl := Option.some.inj hf
                exact J6
              · refine a_if_lt (pc := 122) (tgt := 130) F dX5_holds_122 (by decide) (fun h => ?_) (fun h => ?_)
                · replace hf := it_pos h hf
                  refine a_aloadn (pc := 130) (j := 2) F dX5_holds_130 rfl rfl ?_
                  refine a_iload (pc := 131) (j := 6) F dX5_holds_131 rfl ?_
                  refine a_ineg (pc := 133) F dX5_holds_133 ?_
                  refine a_iload (pc := 134) (j := 3) F dX5_holds_134 rfl ?_
                  obtain ⟨t13, ht13, hf⟩ := bd_some hf
                  refine a_callV (pc := 136) (bs' := [bX5 y a0 x3l.2.2, bX3 y a1 v1]) (kb := 1) (j := 0) F [1] (c_X3_fact l D y ek n a1 _ _ _ _ ht13) (cwV 2 F.1.2.2.2.2 (gV q2_220 q2_221 q2_222 q1_3 q2_223) rfl rfl rfl (by decide +kernel) ⟨Nat.le_of_ble_eq_true rfl, Nat.le_of_ble_eq_true rfl⟩) rfl rfl rfl rfl (by decide) rfl rfl rfl rfl rfl rfl (Nat.le_of_ble_eq_true rfl) ⟨Nat.zero_le _, Nat.zero_le _⟩ dX5_holds_136 ?_
                  refine a_sub [0, 1, 2, 3, 4, 5] rfl ?_
                  obtain rfl := Option.some.inj hf
                  exact J10
                · replace hf := it_neg h hf
                  refine a_iload (pc := 125) (j := 6) F dX5_holds_125 rfl ?_
                  refine a_goto (pc := 127) (tgt := 139) F dX5_holds_127 (by decide) ?_
                  refine a_sub [0, 1, 2, 3, 4, 5] rfl ?_
                  obtain rfl := Option.some.inj hf
                  exact J10
          · try dsimp only at hf
            refine a_if_eq (pc := 62) (tgt := 107) F dX5_holds_62 (by decide) (fun h => ?_) (fun h => ?_)
            · replace hf := it_pos h hf
              exact hK9 () hf
            · replace hf := it_neg h hf
              refine a_iload (pc := 65) (j := 4) F dX5_holds_65 rfl ?_
              refine a_iconst (pc := 67) F dX5_holds_67 kc_1 ?_
              refine a_icmp_le (pc := 68) (tgt := 107) F dX5_holds_68 (by decide) (fun h => ?_) (fun h => ?_)
              · replace hf := it_pos h hf
                exact hK9 () hf
              · replace hf := it_neg h hf
                refine a_iinc (pc := 71) (j := 4) (v := (x3l.1 + (-1))) (lv' := [(0, .ref (a0 0)), (2, .int x2), (3, .ref (a1 0)), (4, .int x4), (5, .int (x3l.1 + (-1))), (6, .int x3l.2.1), (7, .int x7_5)]) F [1, 2, 3, 4, 0, 5, 6] dX5_holds_71 rfl ki_m1 (by decide) rfl ?_
                refine a_aloadn (pc := 74) (j := 0) F dX5_holds_74 rfl rfl ?_
                refine a_get (pc := 75) (kb := 0) (j := 0) (f := 6) F iW_X5 rfl rfl rfl (by decide) (tl q1_176) (fun _ h => h) rfl dX5_holds_75 ?_
                refine a_iload (pc := 78) (j := 4) F dX5_holds_78 rfl ?_
                refine a_iconst (pc := 80) F dX5_holds_80 kc_1 ?_
                refine a_isub (pc := 81) F dX5_holds_81 ?_
                refine a_iload (pc := 82) (j := 6) F dX5_holds_82 rfl ?_
                refine a_aloadn (pc := 84) (j := 0) F dX5_holds_84 rfl rfl ?_
                refine a_get (pc := 85) (kb := 0) (j := 0) (f := 6) F iW_X5 rfl rfl rfl (by decide) (tl q1_176) (fun _ h => h) rfl dX5_holds_85 ?_
                refine a_iload (pc := 88) (j := 4) F dX5_holds_88 rfl ?_
                refine a_iconst (pc := 90) F dX5_holds_90 kc_1 ?_
                refine a_isub (pc := 91) F dX5_holds_91 ?_
                obtain ⟨h14, hf⟩ := gd_some hf
                refine a_iald (pc := 92) (kb := 0) (j := 5) F rfl rfl h14 dX5_holds_92 ?_
                refine a_aloadn (pc := 93) (j := 0) F dX5_holds_93 rfl rfl ?_
                refine a_get (pc := 94) (kb := 0) (j := 0) (f := 6) F iW_X5 rfl rfl rfl (by decide) (tl q1_176) (fun _ h => h) rfl dX5_holds_94 ?_
                refine a_iload (pc := 97) (j := 4) F dX5_holds_97 rfl ?_
                obtain ⟨h15, hf⟩ := gd_some hf
                refine a_iald (pc := 99) (kb := 0) (j := 5) F rfl rfl h15 dX5_holds_99 ?_
                obtain ⟨t16, ht16, hf⟩ := bd_some hf
                refine a_callS (pc := 100) (bs' := [bX5 y a0 x3l.2.2, bX3 y a1 v1]) F [] (c_X5_joined l D y ek n  _ _ _ _ ht16) (va_cwS 3 F.1.2.2.2.2 (gS q2_217 q2_218 q1_4 q2_219) rfl rfl rfl (by decide +kernel) ⟨Nat.le_of_ble_eq_true rfl, Nat.le_of_ble_eq_true rfl⟩) (by decide) rfl rfl rfl rfl rfl rfl (Nat.le_of_ble_eq_true rfl) ⟨Nat.zero_le _, Nat.zero_le _⟩ dX5_holds_100 ?_
                obtain ⟨h17, hf⟩ := gd_some hf
                obtain ⟨u18, eu18, hf⟩ := nm_some hf
                refine a_iast (pc := 103) (kb := 0) (j := 5) (bs' := [bX5 y a0 u18, bX3 y a1 v1]) F rfl rfl h17 (by rw [eu18]; rfl) dX5_holds_103 ?_
                refine a_goto (pc := 104) (tgt := 143) F dX5_holds_104 (by decide) ?_
                refine a_sub [0, 1, 2, 3, 4, 5] rfl ?_
                obtain rfl := Option.some.inj hf
                exact J6
        · try dsimp only at hf
          refine a_icmp_ne (pc := 26) (tgt := 57) F dX5_holds_26 (by decide) (fun h => ?_) (fun h => ?_)
          · replace hf := it_neg h hf
            exact hK7 () hf
          · replace hf := it_pos h hf
            refine a_iload (pc := 29) (j := 4) F dX5_holds_29 rfl ?_
            refine a_if_le (pc := 31) (tgt := 57) F dX5_holds_31 (by decide) (fun h => ?_) (fun h => ?_)
            · replace hf := it_pos h hf
              exact hK7 () hf
            · replace hf := it_neg h hf
              refine a_aloadn (pc := 34) (j := 0) F dX5_holds_34 rfl rfl ?_
              refine a_get (pc := 35) (kb := 0) (j := 0) (f := 6) F iW_X5 rfl rfl rfl (by decide) (tl q1_176) (fun _ h => h) rfl dX5_holds_35 ?_
              refine a_iload (pc := 38) (j := 4) F dX5_holds_38 rfl ?_
              refine a_iconst (pc := 40) F dX5_holds_40 kc_1 ?_
              refine a_isub (pc := 41) F dX5_holds_41 ?_
              refine a_iconst (pc := 42) F dX5_holds_42 kc_1 ?_
              refine a_aloadn (pc := 43) (j := 0) F dX5_holds_43 rfl rfl ?_
              refine a_get (pc := 44) (kb := 0) (j := 0) (f := 6) F iW_X5 rfl rfl rfl (by decide) (tl q1_176) (fun _ h => h) rfl dX5_holds_44 ?_
              refine a_iload (pc := 47) (j := 4) F dX5_holds_47 rfl ?_
              refine a_iconst (pc := 49) F dX5_holds_49 kc_1 ?_
              refine a_isub (pc := 50) F dX5_holds_50 ?_
              obtain ⟨h19, hf⟩ := gd_some hf
              refine a_iald (pc := 51) (kb := 0) (j := 5) F rfl rfl h19 dX5_holds_51 ?_
              refine a_isub (pc := 52) F dX5_holds_52 ?_
              obtain ⟨h20, hf⟩ := gd_some hf
              obtain ⟨u21, eu21, hf⟩ := nm_some hf
              refine a_iast (pc := 53) (kb := 0) (j := 5) (bs' := [bX5 y a0 u21, bX3 y a1 v1]) F rfl rfl h20 (by rw [eu21]; rfl) dX5_holds_53 ?_
              refine a_goto (pc := 54) (tgt := 143) F dX5_holds_54 (by decide) ?_
              refine a_sub [0, 1, 2, 3, 4, 5] rfl ?_
              obtain rfl := Option.some.inj hf
              exact J6

abbrev wX5_sumOf : List Cond := Cond.code yX5_sumOf cX5_sumOf 8 (some .int) :: WALL
def m_X5_sumOf (n : Nat) (v0 : St) (v1 : St) (x1 : Int32) (x3 : Int32) : Option (Int32 × St) :=
lp (fun (rc1 : Int32 × Int32 × Int32 × St → Option (Int32 × St)) (x1l : Int32 × Int32 × Int32 × St) =>
(if (x1l.2.2.2 0 0) ≤ x1l.2.2.1 then
some (x1l.1, x1l.2.2.2)
else
(if ix x1l.2.2.1 12 then nm (x1l.2.2.2 3 (x1l.2.2.1).toNatClampNeg) (fun x7_3 =>
(if ix x1l.2.2.1 12 then bd ((if (x1l.2.2.2 1 (x1l.2.2.1).toNatClampNeg) = x1 then
bd (m_X5_holds n x1l.2.2.2 v1 x1l.2.1 x7_3 x3) (fun t6 =>
(if t6.1 = 0 then
some (x1l.1, t6.2)
else
(if ix x1l.2.2.1 12 then nm (x1l.1 + (t6.2 2 (x1l.2.2.1).toNatClampNeg)) (fun x4_8 =>
some (x4_8, t6.2)) else none)))
else
some (x1l.1, x1l.2.2.2))) (fun (t5 : Int32 × St) =>
rc1 (t5.1, x7_3, (x1l.2.2.1 + 1), t5.2)) else none)) else none))) n (0, 0, 0, v0)
set_option maxHeartbeats 4000000 in
set_option maxRecDepth 100000 in
theorem c_X5_sumOf (l : Launch) (D : va_G) (y : Nat → ClassId) (ek : EK) (n : Nat) (a0 : Nat → Nat) (a1 : Nat → Nat) (v0 : St) (v1 : St) (x1 : Int32) (x3 : Int32) (res : Int32 × St) (hf : m_X5_sumOf n v0 v1 x1 x3 = some res) : CI l yX5_sumOf wX5_sumOf { frames := 2, cells := 0, slots := 0, locals := 49 } D y ek [.ref (a0 0), .int x1, .ref (a1 0), .int x3] [bX5 y a0 v0, bX3 y a1 v1] (res.1) [bX5 y a0 res.2, bX3 y a1 v1] 0 0 := by
  unfold m_X5_sumOf at hf
  refine ci_of (cc := cX5_sumOf) (maxL := 8) (by decide) rfl rfl (Nat.le_of_ble_eq_true rfl) ?_
  intro p e s m below meth c Q A F hret
  refine a_lv (lv' := [(0, .ref (a0 0)), (1, .int x1), (2, .ref (a1 0)), (3, .int x3)]) rfl ?_
  refine a_iconst (pc := 0) F dX5_sumOf_0 kc_0 ?_
  refine a_istore (pc := 1) (lv' := [(0, .ref (a0 0)), (1, .int x1), (2, .ref (a1 0)), (3, .int x3), (4, .int 0)]) F [1, 2, 3, 4, 0] dX5_sumOf_1 (by decide) rfl ?_
  refine a_iconst (pc := 3) F dX5_sumOf_3 kc_0 ?_
  refine a_istore (pc := 4) (lv' := [(0, .ref (a0 0)), (1, .int x1), (2, .ref (a1 0)), (3, .int x3), (4, .int 0), (5, .int 0)]) F [1, 2, 3, 4, 5, 0] dX5_sumOf_4 (by decide) rfl ?_
  refine a_iconst (pc := 6) F dX5_sumOf_6 kc_0 ?_
  refine a_istore (pc := 7) (lv' := [(0, .ref (a0 0)), (1, .int x1), (2, .ref (a1 0)), (3, .int x3), (4, .int 0), (5, .int 0), (6, .int 0)]) F [1, 2, 3, 4, 5, 6, 0] dX5_sumOf_7 (by decide) rfl ?_
  refine a_loop 9 (fun (x1l : Int32 × Int32 × Int32 × St) => [(0, .ref (a0 0)), (1, .int x1), (2, .ref (a1 0)), (3, .int x3), (4, .int x1l.1), (5, .int x1l.2.1), (6, .int x1l.2.2.1)]) (fun (x1l : Int32 × Int32 × Int32 × St) => [bX5 y a0 x1l.2.2.2, bX3 y a1 v1]) (fun rc1 x1l ih1 hf => ?_) hf rfl rfl
  try dsimp only at hf ⊢
  refine a_iload (pc := 9) (j := 6) F dX5_sumOf_9 rfl ?_
  refine a_aloadn (pc := 11) (j := 0) F dX5_sumOf_11 rfl rfl ?_
  refine a_get (pc := 12) (kb := 0) (j := 0) (f := 0) F iW_X5 rfl rfl rfl (by decide) (tl q1_169) (fun _ h => h) rfl dX5_sumOf_12 ?_
  refine a_icmp_ge (pc := 15) (tgt := 73) F dX5_sumOf_15 (by decide) (fun h => ?_) (fun h => ?_)
  · replace hf := it_pos h hf
    refine a_iload (pc := 73) (j := 4) F dX5_sumOf_73 rfl ?_
    obtain rfl := Option.some.inj hf
    exact hret _ _ _ _ (Nat.zero_le _) (Nat.zero_le _) rfl dX5_sumOf_75
  · replace hf := it_neg h hf
    refine a_aloadn (pc := 18) (j := 0) F dX5_sumOf_18 rfl rfl ?_
    refine a_get (pc := 19) (kb := 0) (j := 0) (f := 3) F iW_X5 rfl rfl rfl (by decide) (tl q1_173) (fun _ h => h) rfl dX5_sumOf_19 ?_
    refine a_iload (pc := 22) (j := 6) F dX5_sumOf_22 rfl ?_
    obtain ⟨h2, hf⟩ := gd_some hf
    refine a_iald (pc := 24) (kb := 0) (j := 3) F rfl rfl h2 dX5_sumOf_24 ?_
    obtain ⟨x7_3, ex7_3, hf⟩ := nm_some hf
    refine a_nmi ex7_3 ?_
    refine a_istore (pc := 25) (lv' := [(0, .ref (a0 0)), (1, .int x1), (2, .ref (a1 0)), (3, .int x3), (4, .int x1l.1), (5, .int x1l.2.1), (6, .int x1l.2.2.1), (7, .int x7_3)]) F [1, 2, 3, 4, 5, 6, 7, 0] dX5_sumOf_25 (by decide) rfl ?_
    refine a_aloadn (pc := 27) (j := 0) F dX5_sumOf_27 rfl rfl ?_
    refine a_get (pc := 28) (kb := 0) (j := 0) (f := 1) F iW_X5 rfl rfl rfl (by decide) (tl q1_171) (fun _ h => h) rfl dX5_sumOf_28 ?_
    refine a_iload (pc := 31) (j := 6) F dX5_sumOf_31 rfl ?_
    obtain ⟨h4, hf⟩ := gd_some hf
    refine a_iald (pc := 33) (kb := 0) (j := 1) F rfl rfl h4 dX5_sumOf_33 ?_
    refine a_iloadn (pc := 34) (j := 1) F dX5_sumOf_34 rfl rfl ?_
    refine a_join 63 (fun (t5 : Int32 × St) => [(0, .ref (a0 0)), (1, .int x1), (2, .ref (a1 0)), (3, .int x3), (4, .int t5.1), (6, .int x1l.2.2.1), (7, .int x7_3)]) (fun (t5 : Int32 × St) => []) (fun (t5 : Int32 × St) => [bX5 y a0 t5.2, bX3 y a1 v1]) hf (fun t5 hf => ?_) (fun t5 hf J5 => ?_)
    · try dsimp only at hf ⊢
      refine a_iload (pc := 63) (j := 6) F dX5_sumOf_63 rfl ?_
      refine a_istore (pc := 65) (lv' := [(0, .ref (a0 0)), (1, .int x1), (2, .ref (a1 0)), (3, .int x3), (4, .int t5.1), (5, .int x7_3), (6, .int x1l.2.2.1), (7, .int x7_3)]) F [1, 2, 3, 4, 5, 0, 6, 7] dX5_sumOf_65 (by decide) rfl ?_
      refine a_iinc (pc := 67) (j := 6) (v := (x1l.2.2.1 + 1)) (lv' := [(0, .ref (a0 0)), (1, .int x1), (2, .ref (a1 0)), (3, .int x3), (4, .int t5.1), (5, .int x7_3), (6, .int (x1l.2.2.1 + 1)), (7, .int x7_3)]) F [1, 2, 3, 4, 5, 6, 0, 7] dX5_sumOf_67 rfl ki_1 (by decide) rfl ?_
      refine a_goto (pc := 70) (tgt := 9) F dX5_sumOf_70 (by decide) ?_
      refine a_sub [0, 1, 2, 3, 4, 5, 6] rfl ?_
      exact ih1 (t5.1, x7_3, (x1l.2.2.1 + 1), t5.2) hf
    · refine a_icmp_ne (pc := 35) (tgt := 63) F dX5_sumOf_35 (by decide) (fun h => ?_) (fun h => ?_)
      · replace hf := it_neg h hf
        refine a_sub [0, 1, 2, 3, 4, 6, 7] rfl ?_
        obtain rfl := Option.some.inj hf
        exact J5
      · replace hf := it_pos h hf
        refine a_aloadn (pc := 38) (j := 0) F dX5_sumOf_38 rfl rfl ?_
        refine a_iload (pc := 39) (j := 5) F dX5_sumOf_39 rfl ?_
        refine a_iload (pc := 41) (j := 7) F dX5_sumOf_41 rfl ?_
        refine a_aloadn (pc := 43) (j := 2) F dX5_sumOf_43 rfl rfl ?_
        refine a_iloadn (pc := 44) (j := 3) F dX5_sumOf_44 rfl rfl ?_
        obtain ⟨t6, ht6, hf⟩ := bd_some hf
        refine a_callV (pc := 45) (bs' := [bX5 y a0 t6.2, bX3 y a1 v1]) (kb := 0) (j := 0) F [0, 1] (c_X5_holds l D y ek n a0 a1 _ _ _ _ _ _ ht6) (cwV 4 F.1.2.2.2.2 (gV q2_210 q2_212 qs_2 q1_4 q2_213) rfl rfl rfl (by decide +kernel) ⟨Nat.le_of_ble_eq_true rfl, Nat.le_of_ble_eq_true rfl⟩) rfl rfl rfl rfl (by decide) rfl rfl rfl rfl rfl rfl (Nat.le_of_ble_eq_true rfl) ⟨Nat.zero_le _, Nat.zero_le _⟩ dX5_sumOf_45 ?_
        refine a_if_eq (pc := 48) (tgt := 63) F dX5_sumOf_48 (by decide) (fun h => ?_) (fun h => ?_)
        · replace hf := it_pos h hf
          refine a_sub [0, 1, 2, 3, 4, 6, 7] rfl ?_
          obtain rfl := Option.some.inj hf
          exact J5
        · replace hf := it_neg h hf
          refine a_iload (pc := 51) (j := 4) F dX5_sumOf_51 rfl ?_
          refine a_aloadn (pc := 53) (j := 0) F dX5_sumOf_53 rfl rfl ?_
          refine a_get (pc := 54) (kb := 0) (j := 0) (f := 2) F iW_X5 rfl rfl rfl (by decide) (tl q1_172) (fun _ h => h) rfl dX5_sumOf_54 ?_
          refine a_iload (pc := 57) (j := 6) F dX5_sumOf_57 rfl ?_
          obtain ⟨h7, hf⟩ := gd_some hf
          refine a_iald (pc := 59) (kb := 0) (j := 2) F rfl rfl h7 dX5_sumOf_59 ?_
          refine a_iadd (pc := 60) F dX5_sumOf_60 ?_
          obtain ⟨x4_8, ex4_8, hf⟩ := nm_some hf
          refine a_nmi ex4_8 ?_
          refine a_istore (pc := 61) (lv' := [(0, .ref (a0 0)), (1, .int x1), (2, .ref (a1 0)), (3, .int x3), (4, .int x4_8), (5, .int x1l.2.1), (6, .int x1l.2.2.1), (7, .int x7_3)]) F [1, 2, 3, 4, 0, 5, 6, 7] dX5_sumOf_61 (by decide) rfl ?_
          refine a_sub [0, 1, 2, 3, 4, 6, 7] rfl ?_
          obtain rfl := Option.some.inj hf
          exact J5
