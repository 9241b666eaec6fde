abbrev wX12_thrown : List Cond := Cond.code yX12_thrown cX12_thrown 1 (some .int) :: WALL
def m_X12_thrown (n : Nat) (v0 : St) : Option (Int32) :=
some (v0 0 0)
set_option maxHeartbeats 4000000 in
set_option maxRecDepth 100000 in
theorem c_X12_thrown (l : Launch) (D : va_G) (y : Nat → ClassId) (ek : EK) (n : Nat) (a0 : Nat → Nat) (v0 : St) (res : Int32) (hf : m_X12_thrown n v0 = some res) : CI l yX12_thrown wX12_thrown { frames := 0, cells := 0, slots := 0, locals := 0 } D y ek [.ref (a0 0)] [bX12 y a0 v0] (res) [bX12 y a0 v0] 0 0 := by
  unfold m_X12_thrown at hf
  refine ci_of (cc := cX12_thrown) (maxL := 1) (by decide) rfl rfl (Nat.le_of_ble_eq_true rfl) ?_
  intro p e s m below meth c Q A F hret
  refine a_lv (lv' := [(0, .ref (a0 0))]) rfl ?_
  refine a_aloadn (pc := 0) (j := 0) F dX12_thrown_0 rfl rfl ?_
  refine a_get (pc := 1) (kb := 0) (j := 0) (f := 0) F iW_X12 rfl rfl rfl (by decide) (tl q6_68) (fun _ h => h) rfl dX12_thrown_1 ?_
  obtain rfl := Option.some.inj hf
  exact hret _ _ _ _ (Nat.zero_le _) (Nat.zero_le _) rfl dX12_thrown_4

abbrev wX12_throwsIf : List Cond := Cond.code yX12_throwsIf cX12_throwsIf 3 (some .boolean) :: WALL
def m_X12_throwsIf (n : Nat) (v0 : St) (x1 : Int32) (x2 : Int32) : Option (Int32 × St) :=
(if x1 = 0 then
(if isb x1 then some (x1, v0) else none)
else
nm (su v0 0 0 x2) (fun u1 =>
(if isb x1 then some (x1, u1) else none)))
set_option maxHeartbeats 4000000 in
set_option maxRecDepth 100000 in
theorem c_X12_throwsIf (l : Launch) (D : va_G) (y : Nat → ClassId) (ek : EK) (n : Nat) (a0 : Nat → Nat) (v0 : St) (x1 : Int32) (x2 : Int32) (res : Int32 × St) (hf : m_X12_throwsIf n v0 x1 x2 = some res) : CI l yX12_throwsIf wX12_throwsIf { frames := 0, cells := 0, slots := 0, locals := 0 } D y ek [.ref (a0 0), .int x1, .int x2] [bX12 y a0 v0] (res.1) [bX12 y a0 res.2] 0 0 := by
  unfold m_X12_throwsIf at hf
  refine ci_of (cc := cX12_throwsIf) (maxL := 3) (by decide) rfl rfl (Nat.le_of_ble_eq_true rfl) ?_
  intro p e s m below meth c Q A F hret
  refine a_lv (lv' := [(0, .ref (a0 0)), (1, .int x1), (2, .int x2)]) rfl ?_
  refine a_iloadn (pc := 0) (j := 1) F dX12_throwsIf_0 rfl rfl ?_
  refine a_if_eq (pc := 1) (tgt := 9) F dX12_throwsIf_1 (by decide) (fun h => ?_) (fun h => ?_)
  · replace hf := it_pos h hf
    refine a_iloadn (pc := 9) (j := 1) F dX12_throwsIf_9 rfl rfl ?_
    obtain ⟨hz, hf⟩ := gd_some hf
    obtain rfl := Option.some.inj hf
    exact hret _ _ _ _ (Nat.zero_le _) (Nat.zero_le _) (z_nar hz) dX12_throwsIf_10
  · replace hf := it_neg h hf
    refine a_aloadn (pc := 4) (j := 0) F dX12_throwsIf_4 rfl rfl ?_
    refine a_iloadn (pc := 5) (j := 2) F dX12_throwsIf_5 rfl rfl ?_
    obtain ⟨u1, eu1, hf⟩ := nm_some hf
    refine a_put (pc := 6) (kb := 0) (j := 0) (f := 0) (ty := .int) (bs' := [bX12 y a0 u1]) F iW_X12 rfl rfl rfl (by decide) (tl q6_68) (fun _ h => h) tyX12 tyX12_ok nmX12 rfl rfl rfl rfl (Nat.le_of_ble_eq_true rfl) (by rw [eu1]; rfl) dX12_throwsIf_6 ?_
    refine a_iloadn (pc := 9) (j := 1) F dX12_throwsIf_9 rfl rfl ?_
    obtain ⟨hz, hf⟩ := gd_some hf
    obtain rfl := Option.some.inj hf
    exact hret _ _ _ _ (Nat.zero_le _) (Nat.zero_le _) (z_nar hz) dX12_throwsIf_10

abbrev wX12_in : List Cond := Cond.code yX12_in cX12_in 3 (some .boolean) :: WALL
def m_X12_in (n : Nat) (x0 : Int32) (x1 : Int32) (x2 : Int32) : Option (Int32) :=
jn (fun (t1 : Unit) =>
some 0) (fun (K1 : Unit → Option (Int32)) =>
(if x0 < x1 then
K1 ()
else
(if x2 < x0 then
K1 ()
else
some 1)))
set_option maxHeartbeats 4000000 in
set_option maxRecDepth 100000 in
theorem c_X12_in (l : Launch) (D : va_G) (y : Nat → ClassId) (ek : EK) (n : Nat) (x0 : Int32) (x1 : Int32) (x2 : Int32) (res : Int32) (hf : m_X12_in n x0 x1 x2 = some res) : CI l yX12_in wX12_in { frames := 0, cells := 0, slots := 0, locals := 0 } D y ek [.int x0, .int x1, .int x2] [] (res) [] 0 0 := by
  unfold m_X12_in at hf
  refine ci_of (cc := cX12_in) (maxL := 3) (by decide) rfl rfl (Nat.le_of_ble_eq_true rfl) ?_
  intro p e s m below meth c Q A F hret
  refine a_lv (lv' := [(0, .int x0), (1, .int x1), (2, .int x2)]) rfl ?_
  refine a_iloadn (pc := 0) (j := 0) F dX12_in_0 rfl rfl ?_
  refine a_iloadn (pc := 1) (j := 1) F dX12_in_1 rfl rfl ?_
  refine a_jn 14 (fun (t1 : Unit) => []) (fun (t1 : Unit) => []) (fun (t1 : Unit) => []) hf (fun t1 hf => ?_) (fun K1 hK1 hf => ?_)
  · try dsimp only at hf ⊢
    refine a_iconst (pc := 14) F dX12_in_14 kc_0 ?_
    obtain rfl := Option.some.inj hf
    exact hret _ _ _ _ (Nat.zero_le _) (Nat.zero_le _) (z_nar (Or.inl rfl)) dX12_in_15
  · try dsimp only at hf
    refine a_icmp_lt (pc := 2) (tgt := 14) F dX12_in_2 (by decide) (fun h => ?_) (fun h => ?_)
    · replace hf := it_pos h hf
      refine a_sub [] rfl ?_
      exact hK1 () hf
    · replace hf := it_neg h hf
      refine a_iloadn (pc := 5) (j := 0) F dX12_in_5 rfl rfl ?_
      refine a_iloadn (pc := 6) (j := 2) F dX12_in_6 rfl rfl ?_
      refine a_icmp_gt (pc := 7) (tgt := 14) F dX12_in_7 (by decide) (fun h => ?_) (fun h => ?_)
      · replace hf := it_pos h hf
        refine a_sub [] rfl ?_
        exact hK1 () hf
      · replace hf := it_neg h hf
        refine a_iconst (pc := 10) F dX12_in_10 kc_1 ?_
        refine a_goto (pc := 11) (tgt := 15) F dX12_in_11 (by decide) ?_
        obtain rfl := Option.some.inj hf
        exact hret _ _ _ _ (Nat.zero_le _) (Nat.zero_le _) (z_nar (Or.inr rfl)) dX12_in_15

abbrev wX12_holds : List Cond := Cond.code yX12_holds cX12_holds 2 (some .boolean) :: WALL
def m_X12_holds (n : Nat) (x0 : Int32) (x1 : Int32) : Option (Int32) :=
(if ((x_shr x0 x1) &&& 1) = 1 then
some 1
else
some 0)
set_option maxHeartbeats 4000000 in
set_option maxRecDepth 100000 in
theorem c_X12_holds (l : Launch) (D : va_G) (y : Nat → ClassId) (ek : EK) (n : Nat) (x0 : Int32) (x1 : Int32) (res : Int32) (hf : m_X12_holds n x0 x1 = some res) : CI l yX12_holds wX12_holds { frames := 0, cells := 0, slots := 0, locals := 0 } D y ek [.int x0, .int x1] [] (res) [] 0 0 := by
  unfold m_X12_holds at hf
  refine ci_of (cc := cX12_holds) (maxL := 2) (by decide) rfl rfl (Nat.le_of_ble_eq_true rfl) ?_
  intro p e s m below meth c Q A F hret
  refine a_lv (lv' := [(0, .int x0), (1, .int x1)]) rfl ?_
  refine a_iloadn (pc := 0) (j := 0) F dX12_holds_0 rfl rfl ?_
  refine a_iloadn (pc := 1) (j := 1) F dX12_holds_1 rfl rfl ?_
  refine a_ishr (pc := 2) F dX12_holds_2 ?_
  refine a_iconst (pc := 3) F dX12_holds_3 kc_1 ?_
  refine a_iand (pc := 4) F dX12_holds_4 ?_
  refine a_iconst (pc := 5) F dX12_holds_5 kc_1 ?_
  refine a_icmp_ne (pc := 6) (tgt := 13) F dX12_holds_6 (by decide) (fun h => ?_) (fun h => ?_)
  · replace hf := it_neg h hf
    refine a_iconst (pc := 13) F dX12_holds_13 kc_0 ?_
    obtain rfl := Option.some.inj hf
    exact hret _ _ _ _ (Nat.zero_le _) (Nat.zero_le _) (z_nar (Or.inl rfl)) dX12_holds_14
  · replace hf := it_pos h hf
    refine a_iconst (pc := 9) F dX12_holds_9 kc_1 ?_
    refine a_goto (pc := 10) (tgt := 14) F dX12_holds_10 (by decide) ?_
    obtain rfl := Option.some.inj hf
    exact hret _ _ _ _ (Nat.zero_le _) (Nat.zero_le _) (z_nar (Or.inr rfl)) dX12_holds_14

abbrev wX12_image : List Cond := Cond.code yX12_image cX12_image 2 none :: WALL
def m_X12_image (n : Nat) (v0 : St) : Option (St) :=
nm (su v0 0 0 0) (fun u1 =>
bd (lp (fun (rc4 : Int32 × St → Option (St)) (x4l : Int32 × St) =>
(if 1231 ≤ x4l.1 then
some x4l.2
else
(if ix x4l.1 2080 then (if ix x4l.1 1231 then nm (su x4l.2 2 (x4l.1).toNatClampNeg (x4l.2 1 (x4l.1).toNatClampNeg)) (fun u7 =>
rc4 ((x4l.1 + 1), u7)) else none) else none))) n (0, u1)) (fun (t2 : St) =>
nm (su t2 6 0 1) (fun u3 =>
some u3)))
set_option maxHeartbeats 4000000 in
set_option maxRecDepth 100000 in
theorem c_X12_image (l : Launch) (D : va_G) (y : Nat → ClassId) (ek : EK) (n : Nat) (a0 : Nat → Nat) (v0 : St) (res : St) (hf : m_X12_image n v0 = some res) : CV l yX12_image wX12_image { frames := 0, cells := 0, slots := 0, locals := 0 } D y ek [.ref (a0 0)] [bX12 y a0 v0] [bX12 y a0 res] 0 0 := by
  unfold m_X12_image at hf
  refine cv_of (cc := cX12_image) (maxL := 2) (by decide) rfl rfl (Nat.le_of_ble_eq_true rfl) ?_
  intro p e s m below meth c Q A F hret
  refine a_lv (lv' := [(0, .ref (a0 0))]) rfl ?_
  refine a_aloadn (pc := 0) (j := 0) F dX12_image_0 rfl rfl ?_
  refine a_iconst (pc := 1) F dX12_image_1 kc_0 ?_
  obtain ⟨u1, eu1, hf⟩ := nm_some hf
  refine a_put (pc := 2) (kb := 0) (j := 0) (f := 0) (ty := .int) (bs' := [bX12 y a0 u1]) F iW_X12 rfl rfl rfl (by decide) (tl q6_68) (fun _ h => h) tyX12 tyX12_ok nmX12 rfl rfl rfl rfl (Nat.le_of_ble_eq_true rfl) (by rw [eu1]; rfl) dX12_image_2 ?_
  refine a_iconst (pc := 5) F dX12_image_5 kc_0 ?_
  refine a_istoren (pc := 6) (lv' := [(0, .ref (a0 0)), (1, .int 0)]) F [1, 0] dX12_image_6 rfl (by decide) rfl ?_
  refine a_join 32 (fun (t2 : St) => [(0, .ref (a0 0))]) (fun (t2 : St) => []) (fun (t2 : St) => [bX12 y a0 t2]) hf (fun t2 hf => ?_) (fun t2 hf J2 => ?_)
  · try dsimp only at hf ⊢
    refine a_aloadn (pc := 32) (j := 0) F dX12_image_32 rfl rfl ?_
    refine a_iconst (pc := 33) F dX12_image_33 kc_1 ?_
    obtain ⟨u3, eu3, hf⟩ := nm_some hf
    refine a_put (pc := 34) (kb := 0) (j := 0) (f := 6) (ty := .boolean) (bs' := [bX12 y a0 u3]) F iW_X12 rfl rfl rfl (by decide) (tl q6_74) (fun _ h => h) tyX12 tyX12_ok nmX12 rfl rfl rfl rfl (Nat.le_of_ble_eq_true rfl) (by rw [eu3]; rfl) dX12_image_34 ?_
    obtain rfl := Option.some.inj hf
    exact hret _ _ _ _ (Nat.zero_le _) (Nat.zero_le _) dX12_image_37
  · refine a_loop 7 (fun (x4l : Int32 × St) => [(0, .ref (a0 0)), (1, .int x4l.1)]) (fun (x4l : Int32 × St) => [bX12 y a0 x4l.2]) (fun rc4 x4l ih4 hf => ?_) hf rfl rfl
    try dsimp only at hf ⊢
    refine a_iloadn (pc := 7) (j := 1) F dX12_image_7 rfl rfl ?_
    refine a_sipush (pc := 8) F dX12_image_8 ks_1231 ?_
    refine a_icmp_ge (pc := 11) (tgt := 32) F dX12_image_11 (by decide) (fun h => ?_) (fun h => ?_)
    · replace hf := it_pos h hf
      refine a_sub [0] rfl ?_
      obtain rfl := Option.some.inj hf
      exact J2
    · replace hf := it_neg h hf
      refine a_aloadn (pc := 14) (j := 0) F dX12_image_14 rfl rfl ?_
      refine a_get (pc := 15) (kb := 0) (j := 0) (f := 2) F iW_X12 rfl rfl rfl (by decide) (tl q6_70) (fun _ h => h) rfl dX12_image_15 ?_
      refine a_iloadn (pc := 18) (j := 1) F dX12_image_18 rfl rfl ?_
      refine a_aloadn (pc := 19) (j := 0) F dX12_image_19 rfl rfl ?_
      refine a_get (pc := 20) (kb := 0) (j := 0) (f := 1) F iW_X12 rfl rfl rfl (by decide) (tl q6_69) (fun _ h => h) rfl dX12_image_20 ?_
      refine a_iloadn (pc := 23) (j := 1) F dX12_image_23 rfl rfl ?_
      obtain ⟨h5, hf⟩ := gd_some hf
      refine a_iald (pc := 24) (kb := 0) (j := 1) F rfl rfl h5 dX12_image_24 ?_
      obtain ⟨h6, hf⟩ := gd_some hf
      obtain ⟨u7, eu7, hf⟩ := nm_some hf
      refine a_iast (pc := 25) (kb := 0) (j := 2) (bs' := [bX12 y a0 u7]) F rfl rfl h6 (by rw [eu7]; rfl) dX12_image_25 ?_
      refine a_iinc (pc := 26) (j := 1) (v := (x4l.1 + 1)) (lv' := [(0, .ref (a0 0)), (1, .int (x4l.1 + 1))]) F [1, 0] dX12_image_26 rfl ki_1 (by decide) rfl ?_
      refine a_goto (pc := 29) (tgt := 7) F dX12_image_29 (by decide) ?_
      exact ih4 ((x4l.1 + 1), u7) hf

abbrev wX12_back : List Cond := Cond.code yX12_back cX12_back 2 (some .boolean) :: WALL
def m_X12_back (n : Nat) (v0 : St) : Option (Int32 × St) :=
nm (su v0 0 0 0) (fun u1 =>
(if (u1 6 0) = 0 then
some (0, u1)
else
bd (lp (fun (rc4 : Int32 × St → Option (St)) (x4l : Int32 × St) =>
(if 1231 ≤ x4l.1 then
some x4l.2
else
(if ix x4l.1 1231 then (if ix x4l.1 2080 then nm (su x4l.2 1 (x4l.1).toNatClampNeg (x4l.2 2 (x4l.1).toNatClampNeg)) (fun u7 =>
rc4 ((x4l.1 + 1), u7)) else none) else none))) n (0, u1)) (fun (t2 : St) =>
nm (su t2 7 0 0) (fun u3 =>
some (1, u3)))))
set_option maxHeartbeats 4000000 in
set_option maxRecDepth 100000 in
theorem c_X12_back (l : Launch) (D : va_G) (y : Nat → ClassId) (ek : EK) (n : Nat) (a0 : Nat → Nat) (v0 : St) (res : Int32 × St) (hf : m_X12_back n v0 = some res) : CI l yX12_back wX12_back { frames := 0, cells := 0, slots := 0, locals := 0 } D y ek [.ref (a0 0)] [bX12 y a0 v0] (res.1) [bX12 y a0 res.2] 0 0 := by
  unfold m_X12_back at hf
  refine ci_of (cc := cX12_back) (maxL := 2) (by decide) rfl rfl (Nat.le_of_ble_eq_true rfl) ?_
  intro p e s m below meth c Q A F hret
  refine a_lv (lv' := [(0, .ref (a0 0))]) rfl ?_
  refine a_aloadn (pc := 0) (j := 0) F dX12_back_0 rfl rfl ?_
  refine a_iconst (pc := 1) F dX12_back_1 kc_0 ?_
  obtain ⟨u1, eu1, hf⟩ := nm_some hf
  refine a_put (pc := 2) (kb := 0) (j := 0) (f := 0) (ty := .int) (bs' := [bX12 y a0 u1]) F iW_X12 rfl rfl rfl (by decide) (tl q6_68) (fun _ h => h) tyX12 tyX12_ok nmX12 rfl rfl rfl rfl (Nat.le_of_ble_eq_true rfl) (by rw [eu1]; rfl) dX12_back_2 ?_
  refine a_aloadn (pc := 5) (j := 0) F dX12_back_5 rfl rfl ?_
  refine a_get (pc := 6) (kb := 0) (j := 0) (f := 6) F iW_X12 rfl rfl rfl (by decide) (tl q6_74) (fun _ h => h) rfl dX12_back_6 ?_
  refine a_if_ne (pc := 9) (tgt := 14) F dX12_back_9 (by decide) (fun h => ?_) (fun h => ?_)
  · replace hf := it_neg h hf
    refine a_iconst (pc := 14) F dX12_back_14 kc_0 ?_
    refine a_istoren (pc := 15) (lv' := [(0, .ref (a0 0)), (1, .int 0)]) F [1, 0] dX12_back_15 rfl (by decide) rfl ?_
    refine a_join 41 (fun (t2 : St) => [(0, .ref (a0 0))]) (fun (t2 : St) => []) (fun (t2 : St) => [bX12 y a0 t2]) hf (fun t2 hf => ?_) (fun t2 hf J2 => ?_)
    · try dsimp only at hf ⊢
      refine a_aloadn (pc := 41) (j := 0) F dX12_back_41 rfl rfl ?_
      refine a_iconst (pc := 42) F dX12_back_42 kc_0 ?_
      obtain ⟨u3, eu3, hf⟩ := nm_some hf
      refine a_put (pc := 43) (kb := 0) (j := 0) (f := 7) (ty := .int) (bs' := [bX12 y a0 u3]) F iW_X12 rfl rfl rfl (by decide) (tl q6_75) (fun _ h => h) tyX12 tyX12_ok nmX12 rfl rfl rfl rfl (Nat.le_of_ble_eq_true rfl) (by rw [eu3]; rfl) dX12_back_43 ?_
      refine a_iconst (pc := 46) F dX12_back_46 kc_1 ?_
      obtain rfl := Option.some.inj hf
      exact hret _ _ _ _ (Nat.zero_le _) (Nat.zero_le _) (z_nar (Or.inr rfl)) dX12_back_47
    · refine a_loop 16 (fun (x4l : Int32 × St) => [(0, .ref (a0 0)), (1, .int x4l.1)]) (fun (x4l : Int32 × St) => [bX12 y a0 x4l.2]) (fun rc4 x4l ih4 hf => ?_) hf rfl rfl
      try dsimp only at hf ⊢
      refine a_iloadn (pc := 16) (j := 1) F dX12_back_16 rfl rfl ?_
      refine a_sipush (pc := 17) F dX12_back_17 ks_1231 ?_
      refine a_icmp_ge (pc := 20) (tgt := 41) F dX12_back_20 (by decide) (fun h => ?_) (fun h => ?_)
      · replace hf := it_pos h hf
        refine a_sub [0] rfl ?_
        obtain rfl := Option.some.inj hf
        exact J2
      · replace hf := it_neg h hf
        refine a_aloadn (pc := 23) (j := 0) F dX12_back_23 rfl rfl ?_
        refine a_get (pc := 24) (kb := 0) (j := 0) (f := 1) F iW_X12 rfl rfl rfl (by decide) (tl q6_69) (fun _ h => h) rfl dX12_back_24 ?_
        refine a_iloadn (pc := 27) (j := 1) F dX12_back_27 rfl rfl ?_
        refine a_aloadn (pc := 28) (j := 0) F dX12_back_28 rfl rfl ?_
        refine a_get (pc := 29) (kb := 0) (j := 0) (f := 2) F iW_X12 rfl rfl rfl (by decide) (tl q6_70) (fun _ h => h) rfl dX12_back_29 ?_
        refine a_iloadn (pc := 32) (j := 1) F dX12_back_32 rfl rfl ?_
        obtain ⟨h5, hf⟩ := gd_some hf
        refine a_iald (pc := 33) (kb := 0) (j := 2) F rfl rfl h5 dX12_back_33 ?_
        obtain ⟨h6, hf⟩ := gd_some hf
        obtain ⟨u7, eu7, hf⟩ := nm_some hf
        refine a_iast (pc := 34) (kb := 0) (j := 1) (bs' := [bX12 y a0 u7]) F rfl rfl h6 (by rw [eu7]; rfl) dX12_back_34 ?_
        refine a_iinc (pc := 35) (j := 1) (v := (x4l.1 + 1)) (lv' := [(0, .ref (a0 0)), (1, .int (x4l.1 + 1))]) F [1, 0] dX12_back_35 rfl ki_1 (by decide) rfl ?_
        refine a_goto (pc := 38) (tgt := 16) F dX12_back_38 (by decide) ?_
        exact ih4 ((x4l.1 + 1), u7) hf
  · replace hf := it_pos h hf
    refine a_iconst (pc := 12) F dX12_back_12 kc_0 ?_
    obtain rfl := Option.some.inj hf
    exact hret _ _ _ _ (Nat.zero_le _) (Nat.zero_le _) (z_nar (Or.inl rfl)) dX12_back_13

abbrev wX12_remembers : List Cond := Cond.code yX12_remembers cX12_remembers 2 none :: WALL
def m_X12_remembers (n : Nat) (v0 : St) : Option (St) :=
bd ((if (v0 7 0) = 12 then
bd (lp (fun (rc8 : Int32 × St → Option (St)) (x8l : Int32 × St) =>
(if 4202 ≤ x8l.1 then
some x8l.2
else
(if ix (x8l.1 + 382) 4584 then (if ix x8l.1 4584 then nm (su x8l.2 5 (x8l.1).toNatClampNeg (x8l.2 5 ((x8l.1 + 382)).toNatClampNeg)) (fun u11 =>
rc8 ((x8l.1 + 1), u11)) else none) else none))) n (0, v0)) (fun (t7 : St) =>
some t7)
else
nm (su v0 7 0 ((v0 7 0) + 1)) (fun u6 =>
some u6))) (fun (t1 : St) =>
lp (fun (rc2 : Int32 × St → Option (St)) (x2l : Int32 × St) =>
(if 382 ≤ x2l.1 then
some x2l.2
else
(if ix x2l.1 2080 then (if ix ((382 * ((x2l.2 7 0) - 1)) + x2l.1) 4584 then nm (su x2l.2 5 (((382 * ((x2l.2 7 0) - 1)) + x2l.1)).toNatClampNeg (x2l.2 1 (x2l.1).toNatClampNeg)) (fun u5 =>
rc2 ((x2l.1 + 1), u5)) else none) else none))) n (0, t1))
set_option maxHeartbeats 4000000 in
set_option maxRecDepth 100000 in
theorem c_X12_remembers (l : Launch) (D : va_G) (y : Nat → ClassId) (ek : EK) (n : Nat) (a0 : Nat → Nat) (v0 : St) (res : St) (hf : m_X12_remembers n v0 = some res) : CV l yX12_remembers wX12_remembers { frames := 0, cells := 0, slots := 0, locals := 0 } D y ek [.ref (a0 0)] [bX12 y a0 v0] [bX12 y a0 res] 0 0 := by
  unfold m_X12_remembers at hf
  refine cv_of (cc := cX12_remembers) (maxL := 2) (by decide) rfl rfl (Nat.le_of_ble_eq_true rfl) ?_
  intro p e s m below meth c Q A F hret
  refine a_lv (lv' := [(0, .ref (a0 0))]) rfl ?_
  refine a_aloadn (pc := 0) (j := 0) F dX12_remembers_0 rfl rfl ?_
  refine a_get (pc := 1) (kb := 0) (j := 0) (f := 7) F iW_X12 rfl rfl rfl (by decide) (tl q6_75) (fun _ h => h) rfl dX12_remembers_1 ?_
  refine a_bipush (pc := 4) F dX12_remembers_4 kb_12 ?_
  refine a_join 53 (fun (t1 : St) => [(0, .ref (a0 0))]) (fun (t1 : St) => []) (fun (t1 : St) => [bX12 y a0 t1]) hf (fun t1 hf => ?_) (fun t1 hf J1 => ?_)
  · try dsimp only at hf ⊢
    refine a_iconst (pc := 53) F dX12_remembers_53 kc_0 ?_
    refine a_istoren (pc := 54) (lv' := [(0, .ref (a0 0)), (1, .int 0)]) F [1, 0] dX12_remembers_54 rfl (by decide) rfl ?_
    refine a_loop 55 (fun (x2l : Int32 × St) => [(0, .ref (a0 0)), (1, .int x2l.1)]) (fun (x2l : Int32 × St) => [bX12 y a0 x2l.2]) (fun rc2 x2l ih2 hf => ?_) hf rfl rfl
    try dsimp only at hf ⊢
    refine a_iloadn (pc := 55) (j := 1) F dX12_remembers_55 rfl rfl ?_
    refine a_sipush (pc := 56) F dX12_remembers_56 ks_382 ?_
    refine a_icmp_ge (pc := 59) (tgt := 91) F dX12_remembers_59 (by decide) (fun h => ?_) (fun h => ?_)
    · replace hf := it_pos h hf
      obtain rfl := Option.some.inj hf
      exact hret _ _ _ _ (Nat.zero_le _) (Nat.zero_le _) dX12_remembers_91
    · replace hf := it_neg h hf
      refine a_aloadn (pc := 62) (j := 0) F dX12_remembers_62 rfl rfl ?_
      refine a_get (pc := 63) (kb := 0) (j := 0) (f := 5) F iW_X12 rfl rfl rfl (by decide) (tl q6_73) (fun _ h => h) rfl dX12_remembers_63 ?_
      refine a_sipush (pc := 66) F dX12_remembers_66 ks_382 ?_
      refine a_aloadn (pc := 69) (j := 0) F dX12_remembers_69 rfl rfl ?_
      refine a_get (pc := 70) (kb := 0) (j := 0) (f := 7) F iW_X12 rfl rfl rfl (by decide) (tl q6_75) (fun _ h => h) rfl dX12_remembers_70 ?_
      refine a_iconst (pc := 73) F dX12_remembers_73 kc_1 ?_
      refine a_isub (pc := 74) F dX12_remembers_74 ?_
      refine a_imul (pc := 75) F dX12_remembers_75 ?_
      refine a_iloadn (pc := 76) (j := 1) F dX12_remembers_76 rfl rfl ?_
      refine a_iadd (pc := 77) F dX12_remembers_77 ?_
      refine a_aloadn (pc := 78) (j := 0) F dX12_remembers_78 rfl rfl ?_
      refine a_get (pc := 79) (kb := 0) (j := 0) (f := 1) F iW_X12 rfl rfl rfl (by decide) (tl q6_69) (fun _ h => h) rfl dX12_remembers_79 ?_
      refine a_iloadn (pc := 82) (j := 1) F dX12_remembers_82 rfl rfl ?_
      obtain ⟨h3, hf⟩ := gd_some hf
      refine a_iald (pc := 83) (kb := 0) (j := 1) F rfl rfl h3 dX12_remembers_83 ?_
      obtain ⟨h4, hf⟩ := gd_some hf
      obtain ⟨u5, eu5, hf⟩ := nm_some hf
      refine a_iast (pc := 84) (kb := 0) (j := 5) (bs' := [bX12 y a0 u5]) F rfl rfl h4 (by rw [eu5]; rfl) dX12_remembers_84 ?_
      refine a_iinc (pc := 85) (j := 1) (v := (x2l.1 + 1)) (lv' := [(0, .ref (a0 0)), (1, .int (x2l.1 + 1))]) F [1, 0] dX12_remembers_85 rfl ki_1 (by decide) rfl ?_
      refine a_goto (pc := 88) (tgt := 55) F dX12_remembers_88 (by decide) ?_
      exact ih2 ((x2l.1 + 1), u5) hf
  · refine a_icmp_ne (pc := 6) (tgt := 43) F dX12_remembers_6 (by decide) (fun h => ?_) (fun h => ?_)
    · replace hf := it_neg h hf
      refine a_aloadn (pc := 43) (j := 0) F dX12_remembers_43 rfl rfl ?_
      refine a_dup (pc := 44) F dX12_remembers_44 rfl ?_
      refine a_get (pc := 45) (kb := 0) (j := 0) (f := 7) F iW_X12 rfl rfl rfl (by decide) (tl q6_75) (fun _ h => h) rfl dX12_remembers_45 ?_
      refine a_iconst (pc := 48) F dX12_remembers_48 kc_1 ?_
      refine a_iadd (pc := 49) F dX12_remembers_49 ?_
      obtain ⟨u6, eu6, hf⟩ := nm_some hf
      refine a_put (pc := 50) (kb := 0) (j := 0) (f := 7) (ty := .int) (bs' := [bX12 y a0 u6]) F iW_X12 rfl rfl rfl (by decide) (tl q6_75) (fun _ h => h) tyX12 tyX12_ok nmX12 rfl rfl rfl rfl (Nat.le_of_ble_eq_true rfl) (by rw [eu6]; rfl) dX12_remembers_50 ?_
      obtain rfl := Option.some.inj hf
      exact J1
    · replace hf := it_pos h hf
      refine a_iconst (pc := 9) F dX12_remembers_9 kc_0 ?_
      refine a_istoren (pc := 10) (lv' := [(0, .ref (a0 0)), (1, .int 0)]) F [1, 0] dX12_remembers_10 rfl (by decide) rfl ?_
      refine a_join 40 (fun (t7 : St) => [(0, .ref (a0 0))]) (fun (t7 : St) => []) (fun (t7 : St) => [bX12 y a0 t7]) hf (fun t7 hf => ?_) (fun t7 hf J7 => ?_)
      · try dsimp only at hf ⊢
        refine a_goto (pc := 40) (tgt := 53) F dX12_remembers_40 (by decide) ?_
        obtain rfl := Option.some.inj hf
        exact J1
      · refine a_loop 11 (fun (x8l : Int32 × St) => [(0, .ref (a0 0)), (1, .int x8l.1)]) (fun (x8l : Int32 × St) => [bX12 y a0 x8l.2]) (fun rc8 x8l ih8 hf => ?_) hf rfl rfl
        try dsimp only at hf ⊢
        refine a_iloadn (pc := 11) (j := 1) F dX12_remembers_11 rfl rfl ?_
        refine a_sipush (pc := 12) F dX12_remembers_12 ks_4202 ?_
        refine a_icmp_ge (pc := 15) (tgt := 40) F dX12_remembers_15 (by decide) (fun h => ?_) (fun h => ?_)
        · replace hf := it_pos h hf
          refine a_sub [0] rfl ?_
          obtain rfl := Option.some.inj hf
          exact J7
        · replace hf := it_neg h hf
          refine a_aloadn (pc := 18) (j := 0) F dX12_remembers_18 rfl rfl ?_
          refine a_get (pc := 19) (kb := 0) (j := 0) (f := 5) F iW_X12 rfl rfl rfl (by decide) (tl q6_73) (fun _ h => h) rfl dX12_remembers_19 ?_
          refine a_iloadn (pc := 22) (j := 1) F dX12_remembers_22 rfl rfl ?_
          refine a_aloadn (pc := 23) (j := 0) F dX12_remembers_23 rfl rfl ?_
          refine a_get (pc := 24) (kb := 0) (j := 0) (f := 5) F iW_X12 rfl rfl rfl (by decide) (tl q6_73) (fun _ h => h) rfl dX12_remembers_24 ?_
          refine a_iloadn (pc := 27) (j := 1) F dX12_remembers_27 rfl rfl ?_
          refine a_sipush (pc := 28) F dX12_remembers_28 ks_382 ?_
          refine a_iadd (pc := 31) F dX12_remembers_31 ?_
          obtain ⟨h9, hf⟩ := gd_some hf
          refine a_iald (pc := 32) (kb := 0) (j := 5) F rfl rfl h9 dX12_remembers_32 ?_
          obtain ⟨h10, hf⟩ := gd_some hf
          obtain ⟨u11, eu11, hf⟩ := nm_some hf
          refine a_iast (pc := 33) (kb := 0) (j := 5) (bs' := [bX12 y a0 u11]) F rfl rfl h10 (by rw [eu11]; rfl) dX12_remembers_33 ?_
          refine a_iinc (pc := 34) (j := 1) (v := (x8l.1 + 1)) (lv' := [(0, .ref (a0 0)), (1, .int (x8l.1 + 1))]) F [1, 0] dX12_remembers_34 rfl ki_1 (by decide) rfl ?_
          refine a_goto (pc := 37) (tgt := 11) F dX12_remembers_37 (by decide) ?_
          exact ih8 ((x8l.1 + 1), u11) hf

abbrev wX12_undo : List Cond := Cond.code yX12_undo cX12_undo 2 (some .boolean) :: WALL
def m_X12_undo (n : Nat) (v0 : St) : Option (Int32 × St) :=
nm (su v0 0 0 0) (fun u1 =>
(if (u1 7 0) = 0 then
some (0, u1)
else
nm (su u1 7 0 ((u1 7 0) - 1)) (fun u2 =>
lp (fun (rc3 : Int32 × St → Option (Int32 × St)) (x3l : Int32 × St) =>
(if 382 ≤ x3l.1 then
some (1, x3l.2)
else
(if ix ((382 * (x3l.2 7 0)) + x3l.1) 4584 then (if ix x3l.1 2080 then nm (su x3l.2 1 (x3l.1).toNatClampNeg (x3l.2 5 (((382 * (x3l.2 7 0)) + x3l.1)).toNatClampNeg)) (fun u6 =>
rc3 ((x3l.1 + 1), u6)) else none) else none))) n (0, u2))))
set_option maxHeartbeats 4000000 in
set_option maxRecDepth 100000 in
theorem c_X12_undo (l : Launch) (D : va_G) (y : Nat → ClassId) (ek : EK) (n : Nat) (a0 : Nat → Nat) (v0 : St) (res : Int32 × St) (hf : m_X12_undo n v0 = some res) : CI l yX12_undo wX12_undo { frames := 0, cells := 0, slots := 0, locals := 0 } D y ek [.ref (a0 0)] [bX12 y a0 v0] (res.1) [bX12 y a0 res.2] 0 0 := by
  unfold m_X12_undo at hf
  refine ci_of (cc := cX12_undo) (maxL := 2) (by decide) rfl rfl (Nat.le_of_ble_eq_true rfl) ?_
  intro p e s m below meth c Q A F hret
  refine a_lv (lv' := [(0, .ref (a0 0))]) rfl ?_
  refine a_aloadn (pc := 0) (j := 0) F dX12_undo_0 rfl rfl ?_
  refine a_iconst (pc := 1) F dX12_undo_1 kc_0 ?_
  obtain ⟨u1, eu1, hf⟩ := nm_some hf
  refine a_put (pc := 2) (kb := 0) (j := 0) (f := 0) (ty := .int) (bs' := [bX12 y a0 u1]) F iW_X12 rfl rfl rfl (by decide) (tl q6_68) (fun _ h => h) tyX12 tyX12_ok nmX12 rfl rfl rfl rfl (Nat.le_of_ble_eq_true rfl) (by rw [eu1]; rfl) dX12_undo_2 ?_
  refine a_aloadn (pc := 5) (j := 0) F dX12_undo_5 rfl rfl ?_
  refine a_get (pc := 6) (kb := 0) (j := 0) (f := 7) F iW_X12 rfl rfl rfl (by decide) (tl q6_75) (fun _ h => h) rfl dX12_undo_6 ?_
  refine a_if_ne (pc := 9) (tgt := 14) F dX12_undo_9 (by decide) (fun h => ?_) (fun h => ?_)
  · replace hf := it_neg h hf
    refine a_aloadn (pc := 14) (j := 0) F dX12_undo_14 rfl rfl ?_
    refine a_dup (pc := 15) F dX12_undo_15 rfl ?_
    refine a_get (pc := 16) (kb := 0) (j := 0) (f := 7) F iW_X12 rfl rfl rfl (by decide) (tl q6_75) (fun _ h => h) rfl dX12_undo_16 ?_
    refine a_iconst (pc := 19) F dX12_undo_19 kc_1 ?_
    refine a_isub (pc := 20) F dX12_undo_20 ?_
    obtain ⟨u2, eu2, hf⟩ := nm_some hf
    refine a_put (pc := 21) (kb := 0) (j := 0) (f := 7) (ty := .int) (bs' := [bX12 y a0 u2]) F iW_X12 rfl rfl rfl (by decide) (tl q6_75) (fun _ h => h) tyX12 tyX12_ok nmX12 rfl rfl rfl rfl (Nat.le_of_ble_eq_true rfl) (by rw [eu2]; rfl) dX12_undo_21 ?_
    refine a_iconst (pc := 24) F dX12_undo_24 kc_0 ?_
    refine a_istoren (pc := 25) (lv' := [(0, .ref (a0 0)), (1, .int 0)]) F [1, 0] dX12_undo_25 rfl (by decide) rfl ?_
    refine a_loop 26 (fun (x3l : Int32 × St) => [(0, .ref (a0 0)), (1, .int x3l.1)]) (fun (x3l : Int32 × St) => [bX12 y a0 x3l.2]) (fun rc3 x3l ih3 hf => ?_) hf rfl rfl
    try dsimp only at hf ⊢
    refine a_iloadn (pc := 26) (j := 1) F dX12_undo_26 rfl rfl ?_
    refine a_sipush (pc := 27) F dX12_undo_27 ks_382 ?_
    refine a_icmp_ge (pc := 30) (tgt := 60) F dX12_undo_30 (by decide) (fun h => ?_) (fun h => ?_)
    · replace hf := it_pos h hf
      refine a_iconst (pc := 60) F dX12_undo_60 kc_1 ?_
      obtain rfl := Option.some.inj hf
      exact hret _ _ _ _ (Nat.zero_le _) (Nat.zero_le _) (z_nar (Or.inr rfl)) dX12_undo_61
    · replace hf := it_neg h hf
      refine a_aloadn (pc := 33) (j := 0) F dX12_undo_33 rfl rfl ?_
      refine a_get (pc := 34) (kb := 0) (j := 0) (f := 1) F iW_X12 rfl rfl rfl (by decide) (tl q6_69) (fun _ h => h) rfl dX12_undo_34 ?_
      refine a_iloadn (pc := 37) (j := 1) F dX12_undo_37 rfl rfl ?_
      refine a_aloadn (pc := 38) (j := 0) F dX12_undo_38 rfl rfl ?_
      refine a_get (pc := 39) (kb := 0) (j := 0) (f := 5) F iW_X12 rfl rfl rfl (by decide) (tl q6_73) (fun _ h => h) rfl dX12_undo_39 ?_
      refine a_sipush (pc := 42) F dX12_undo_42 ks_382 ?_
      refine a_aloadn (pc := 45) (j := 0) F dX12_undo_45 rfl rfl ?_
      refine a_get (pc := 46) (kb := 0) (j := 0) (f := 7) F iW_X12 rfl rfl rfl (by decide) (tl q6_75) (fun _ h => h) rfl dX12_undo_46 ?_
      refine a_imul (pc := 49) F dX12_undo_49 ?_
      refine a_iloadn (pc := 50) (j := 1) F dX12_undo_50 rfl rfl ?_
      refine a_iadd (pc := 51) F dX12_undo_51 ?_
      obtain ⟨h4, hf⟩ := gd_some hf
      refine a_iald (pc := 52) (kb := 0) (j := 5) F rfl rfl h4 dX12_undo_52 ?_
      obtain ⟨h5, hf⟩ := gd_some hf
      obtain ⟨u6, eu6, hf⟩ := nm_some hf
      refine a_iast (pc := 53) (kb := 0) (j := 1) (bs' := [bX12 y a0 u6]) F rfl rfl h5 (by rw [eu6]; rfl) dX12_undo_53 ?_
      refine a_iinc (pc := 54) (j := 1) (v := (x3l.1 + 1)) (lv' := [(0, .ref (a0 0)), (1, .int (x3l.1 + 1))]) F [1, 0] dX12_undo_54 rfl ki_1 (by decide) rfl ?_
      refine a_goto (pc := 57) (tgt := 26) F dX12_undo_57 (by decide) ?_
      exact ih3 ((x3l.1 + 1), u6) hf
  · replace hf := it_pos h hf
    refine a_iconst (pc := 12) F dX12_undo_12 kc_0 ?_
    obtain rfl := Option.some.inj hf
    exact hret _ _ _ _ (Nat.zero_le _) (Nat.zero_le _) (z_nar (Or.inl rfl)) dX12_undo_13

abbrev wX12_planks : List Cond := Cond.code yX12_planks cX12_planks 1 (some .int) :: WALL
def m_X12_planks (n : Nat) (v0 : St) : Option (Int32) :=
some (v0 1 0)
set_option maxHeartbeats 4000000 in
set_option maxRecDepth 100000 in
theorem c_X12_planks (l : Launch) (D : va_G) (y : Nat → ClassId) (ek : EK) (n : Nat) (a0 : Nat → Nat) (v0 : St) (res : Int32) (hf : m_X12_planks n v0 = some res) : CI l yX12_planks wX12_planks { frames := 0, cells := 0, slots := 0, locals := 0 } D y ek [.ref (a0 0)] [bX12 y a0 v0] (res) [bX12 y a0 v0] 0 0 := by
  unfold m_X12_planks at hf
  refine ci_of (cc := cX12_planks) (maxL := 1) (by decide) rfl rfl (Nat.le_of_ble_eq_true rfl) ?_
  intro p e s m below meth c Q A F hret
  refine a_lv (lv' := [(0, .ref (a0 0))]) rfl ?_
  refine a_aloadn (pc := 0) (j := 0) F dX12_planks_0 rfl rfl ?_
  refine a_get (pc := 1) (kb := 0) (j := 0) (f := 1) F iW_X12 rfl rfl rfl (by decide) (tl q6_69) (fun _ h => h) rfl dX12_planks_1 ?_
  refine a_iconst (pc := 4) F dX12_planks_4 kc_0 ?_
  refine a_ialdc (pc := 5) (kb := 0) (j := 1) (k := 0) F rfl rfl (by decide) (by decide) dX12_planks_5 ?_
  obtain rfl := Option.some.inj hf
  exact hret _ _ _ _ (Nat.zero_le _) (Nat.zero_le _) rfl dX12_planks_6

abbrev wX12_houses : List Cond := Cond.code yX12_houses cX12_houses 1 (some .int) :: WALL
def m_X12_houses (n : Nat) (v0 : St) : Option (Int32) :=
bd (m_X12_planks n v0) (fun t1 =>
some (2 * t1))
set_option maxHeartbeats 4000000 in
set_option maxRecDepth 100000 in
theorem c_X12_houses (l : Launch) (D : va_G) (y : Nat → ClassId) (ek : EK) (n : Nat) (a0 : Nat → Nat) (v0 : St) (res : Int32) (hf : m_X12_houses n v0 = some res) : CI l yX12_houses wX12_houses { frames := 1, cells := 0, slots := 0, locals := 20 } D y ek [.ref (a0 0)] [bX12 y a0 v0] (res) [bX12 y a0 v0] 0 0 := by
  unfold m_X12_houses at hf
  refine ci_of (cc := cX12_houses) (maxL := 1) (by decide) rfl rfl (Nat.le_of_ble_eq_true rfl) ?_
  intro p e s m below meth c Q A F hret
  refine a_lv (lv' := [(0, .ref (a0 0))]) rfl ?_
  refine a_iconst (pc := 0) F dX12_houses_0 kc_2 ?_
  refine a_aloadn (pc := 1) (j := 0) F dX12_houses_1 rfl rfl ?_
  obtain ⟨t1, ht1, hf⟩ := bd_some hf
  refine a_callV (pc := 2) (bs' := [bX12 y a0 v0]) (kb := 0) (j := 0) F [0] (c_X12_planks l D y ek n a0 _ _ ht1) (cwV 0 F.1.2.2.2.2 (gV q6_196 q6_198 qs_34 q1_11 q6_199) rfl rfl rfl (by decide +kernel) ⟨Nat.le_of_ble_eq_true rfl, Nat.le_of_ble_eq_true rfl⟩) rfl rfl rfl rfl (by decide) rfl rfl rfl rfl rfl rfl (Nat.le_of_ble_eq_true rfl) ⟨Nat.zero_le _, Nat.zero_le _⟩ dX12_houses_2 ?_
  refine a_imul (pc := 5) F dX12_houses_5 ?_
  obtain rfl := Option.some.inj hf
  exact hret _ _ _ _ (Nat.zero_le _) (Nat.zero_le _) rfl dX12_houses_6

abbrev wX12_things : List Cond := Cond.code yX12_things cX12_things 1 (some .int) :: WALL
def m_X12_things (n : Nat) (v0 : St) : Option (Int32) :=
some (v0 1 1)
set_option maxHeartbeats 4000000 in
set_option maxRecDepth 100000 in
theorem c_X12_things (l : Launch) (D : va_G) (y : Nat → ClassId) (ek : EK) (n : Nat) (a0 : Nat → Nat) (v0 : St) (res : Int32) (hf : m_X12_things n v0 = some res) : CI l yX12_things wX12_things { frames := 0, cells := 0, slots := 0, locals := 0 } D y ek [.ref (a0 0)] [bX12 y a0 v0] (res) [bX12 y a0 v0] 0 0 := by
  unfold m_X12_things at hf
  refine ci_of (cc := cX12_things) (maxL := 1) (by decide) rfl rfl (Nat.le_of_ble_eq_true rfl) ?_
  intro p e s m below meth c Q A F hret
  refine a_lv (lv' := [(0, .ref (a0 0))]) rfl ?_
  refine a_aloadn (pc := 0) (j := 0) F dX12_things_0 rfl rfl ?_
  refine a_get (pc := 1) (kb := 0) (j := 0) (f := 1) F iW_X12 rfl rfl rfl (by decide) (tl q6_69) (fun _ h => h) rfl dX12_things_1 ?_
  refine a_iconst (pc := 4) F dX12_things_4 kc_1 ?_
  refine a_ialdc (pc := 5) (kb := 0) (j := 1) (k := 1) F rfl rfl (by decide) (by decide) dX12_things_5 ?_
  obtain rfl := Option.some.inj hf
  exact hret _ _ _ _ (Nat.zero_le _) (Nat.zero_le _) rfl dX12_things_6

abbrev wX12_plankAt : List Cond := Cond.code yX12_plankAt cX12_plankAt 2 (some .int) :: WALL
def m_X12_plankAt (n : Nat) (x0 : Int32) (x1 : Int32) : Option (Int32) :=
some ((12 + (4 * x0)) + x1)
set_option maxHeartbeats 4000000 in
set_option maxRecDepth 100000 in
theorem c_X12_plankAt (l : Launch) (D : va_G) (y : Nat → ClassId) (ek : EK) (n : Nat) (x0 : Int32) (x1 : Int32) (res : Int32) (hf : m_X12_plankAt n x0 x1 = some res) : CI l yX12_plankAt wX12_plankAt { frames := 0, cells := 0, slots := 0, locals := 0 } D y ek [.int x0, .int x1] [] (res) [] 0 0 := by
  unfold m_X12_plankAt at hf
  refine ci_of (cc := cX12_plankAt) (maxL := 2) (by decide) rfl rfl (Nat.le_of_ble_eq_true rfl) ?_
  intro p e s m below meth c Q A F hret
  refine a_lv (lv' := [(0, .int x0), (1, .int x1)]) rfl ?_
  refine a_bipush (pc := 0) F dX12_plankAt_0 kb_12 ?_
  refine a_iconst (pc := 2) F dX12_plankAt_2 kc_4 ?_
  refine a_iloadn (pc := 3) (j := 0) F dX12_plankAt_3 rfl rfl ?_
  refine a_imul (pc := 4) F dX12_plankAt_4 ?_
  refine a_iadd (pc := 5) F dX12_plankAt_5 ?_
  refine a_iloadn (pc := 6) (j := 1) F dX12_plankAt_6 rfl rfl ?_
  refine a_iadd (pc := 7) F dX12_plankAt_7 ?_
  obtain rfl := Option.some.inj hf
  exact hret _ _ _ _ (Nat.zero_le _) (Nat.zero_le _) rfl dX12_plankAt_8

abbrev wX12_ofPlank : List Cond := Cond.code yX12_ofPlank cX12_ofPlank 3 (some .int) :: WALL
def m_X12_ofPlank (n : Nat) (v0 : St) (x1 : Int32) (x2 : Int32) : Option (Int32) :=
bd (m_X12_plankAt n x1 x2) (fun t1 =>
(if ix t1 2080 then some (v0 1 (t1).toNatClampNeg) else none))
set_option maxHeartbeats 4000000 in
set_option maxRecDepth 100000 in
theorem c_X12_ofPlank (l : Launch) (D : va_G) (y : Nat → ClassId) (ek : EK) (n : Nat) (a0 : Nat → Nat) (v0 : St) (x1 : Int32) (x2 : Int32) (res : Int32) (hf : m_X12_ofPlank n v0 x1 x2 = some res) : CI l yX12_ofPlank wX12_ofPlank { frames := 1, cells := 0, slots := 0, locals := 21 } D y ek [.ref (a0 0), .int x1, .int x2] [bX12 y a0 v0] (res) [bX12 y a0 v0] 0 0 := by
  unfold m_X12_ofPlank at hf
  refine ci_of (cc := cX12_ofPlank) (maxL := 3) (by decide) rfl rfl (Nat.le_of_ble_eq_true rfl) ?_
  intro p e s m below meth c Q A F hret
  refine a_lv (lv' := [(0, .ref (a0 0)), (1, .int x1), (2, .int x2)]) rfl ?_
  refine a_aloadn (pc := 0) (j := 0) F dX12_ofPlank_0 rfl rfl ?_
  refine a_get (pc := 1) (kb := 0) (j := 0) (f := 1) F iW_X12 rfl rfl rfl (by decide) (tl q6_69) (fun _ h => h) rfl dX12_ofPlank_1 ?_
  refine a_iloadn (pc := 4) (j := 1) F dX12_ofPlank_4 rfl rfl ?_
  refine a_iloadn (pc := 5) (j := 2) F dX12_ofPlank_5 rfl rfl ?_
  obtain ⟨t1, ht1, hf⟩ := bd_some hf
  refine a_callS (pc := 6) (bs' := [bX12 y a0 v0]) F [] (c_X12_plankAt l D y ek n  _ _ _ ht1) (va_cwS 2 F.1.2.2.2.2 (gS q6_209 q6_210 q1_11 q6_211) rfl rfl rfl (by decide +kernel) ⟨Nat.le_of_ble_eq_true rfl, Nat.le_of_ble_eq_true rfl⟩) (by decide) rfl rfl rfl rfl rfl rfl (Nat.le_of_ble_eq_true rfl) ⟨Nat.zero_le _, Nat.zero_le _⟩ dX12_ofPlank_6 ?_
  obtain ⟨h2, hf⟩ := gd_some hf
  refine a_iald (pc := 9) (kb := 0) (j := 1) F rfl rfl h2 dX12_ofPlank_9 ?_
  obtain rfl := Option.some.inj hf
  exact hret _ _ _ _ (Nat.zero_le _) (Nat.zero_le _) rfl dX12_ofPlank_10

abbrev wX12_isBroken : List Cond := Cond.code yX12_isBroken cX12_isBroken 2 (some .boolean) :: WALL
def m_X12_isBroken (n : Nat) (v0 : St) (x1 : Int32) : Option (Int32) :=
bd (m_X12_ofPlank n v0 x1 3) (fun t1 =>
(if t1 = 1 then
some 1
else
some 0))
set_option maxHeartbeats 4000000 in
set_option maxRecDepth 100000 in
theorem c_X12_isBroken (l : Launch) (D : va_G) (y : Nat → ClassId) (ek : EK) (n : Nat) (a0 : Nat → Nat) (v0 : St) (x1 : Int32) (res : Int32) (hf : m_X12_isBroken n v0 x1 = some res) : CI l yX12_isBroken wX12_isBroken { frames := 2, cells := 0, slots := 0, locals := 43 } D y ek [.ref (a0 0), .int x1] [bX12 y a0 v0] (res) [bX12 y a0 v0] 0 0 := by
  unfold m_X12_isBroken at hf
  refine ci_of (cc := cX12_isBroken) (maxL := 2) (by decide) rfl rfl (Nat.le_of_ble_eq_true rfl) ?_
  intro p e s m below meth c Q A F hret
  refine a_lv (lv' := [(0, .ref (a0 0)), (1, .int x1)]) rfl ?_
  refine a_aloadn (pc := 0) (j := 0) F dX12_isBroken_0 rfl rfl ?_
  refine a_iloadn (pc := 1) (j := 1) F dX12_isBroken_1 rfl rfl ?_
  refine a_iconst (pc := 2) F dX12_isBroken_2 kc_3 ?_
  obtain ⟨t1, ht1, hf⟩ := bd_some hf
  refine a_callV (pc := 3) (bs' := [bX12 y a0 v0]) (kb := 0) (j := 0) F [0] (c_X12_ofPlank l D y ek n a0 _ _ _ _ ht1) (cwV 2 F.1.2.2.2.2 (gV q7_88 q7_90 qs_56 q1_11 q7_91) rfl rfl rfl (by decide +kernel) ⟨Nat.le_of_ble_eq_true rfl, Nat.le_of_ble_eq_true rfl⟩) rfl rfl rfl rfl (by decide) rfl rfl rfl rfl rfl rfl (Nat.le_of_ble_eq_true rfl) ⟨Nat.zero_le _, Nat.zero_le _⟩ dX12_isBroken_3 ?_
  refine a_iconst (pc := 6) F dX12_isBroken_6 kc_1 ?_
  refine a_icmp_ne (pc := 7) (tgt := 14) F dX12_isBroken_7 (by decide) (fun h => ?_) (fun h => ?_)
  · replace hf := it_neg h hf
    refine a_iconst (pc := 14) F dX12_isBroken_14 kc_0 ?_
    obtain rfl := Option.some.inj hf
    exact hret _ _ _ _ (Nat.zero_le _) (Nat.zero_le _) (z_nar (Or.inl rfl)) dX12_isBroken_15
  · replace hf := it_pos h hf
    refine a_iconst (pc := 10) F dX12_isBroken_10 kc_1 ?_
    refine a_goto (pc := 11) (tgt := 15) F dX12_isBroken_11 (by decide) ?_
    obtain rfl := Option.some.inj hf
    exact hret _ _ _ _ (Nat.zero_le _) (Nat.zero_le _) (z_nar (Or.inr rfl)) dX12_isBroken_15

abbrev wX12_isPropped : List Cond := Cond.code yX12_isPropped cX12_isPropped 2 (some .boolean) :: WALL
def m_X12_isPropped (n : Nat) (v0 : St) (x1 : Int32) : Option (Int32) :=
bd (m_X12_ofPlank n v0 x1 2) (fun t1 =>
(if t1 = 1 then
some 1
else
some 0))
set_option maxHeartbeats 4000000 in
set_option maxRecDepth 100000 in
theorem c_X12_isPropped (l : Launch) (D : va_G) (y : Nat → ClassId) (ek : EK) (n : Nat) (a0 : Nat → Nat) (v0 : St) (x1 : Int32) (res : Int32) (hf : m_X12_isPropped n v0 x1 = some res) : CI l yX12_isPropped wX12_isPropped { frames := 2, cells := 0, slots := 0, locals := 43 } D y ek [.ref (a0 0), .int x1] [bX12 y a0 v0] (res) [bX12 y a0 v0] 0 0 := by
  unfold m_X12_isPropped at hf
  refine ci_of (cc := cX12_isPropped) (maxL := 2) (by decide) rfl rfl (Nat.le_of_ble_eq_true rfl) ?_
  intro p e s m below meth c Q A F hret
  refine a_lv (lv' := [(0, .ref (a0 0)), (1, .int x1)]) rfl ?_
  refine a_aloadn (pc := 0) (j := 0) F dX12_isPropped_0 rfl rfl ?_
  refine a_iloadn (pc := 1) (j := 1) F dX12_isPropped_1 rfl rfl ?_
  refine a_iconst (pc := 2) F dX12_isPropped_2 kc_2 ?_
  obtain ⟨t1, ht1, hf⟩ := bd_some hf
  refine a_callV (pc := 3) (bs' := [bX12 y a0 v0]) (kb := 0) (j := 0) F [0] (c_X12_ofPlank l D y ek n a0 _ _ _ _ ht1) (cwV 2 F.1.2.2.2.2 (gV q7_88 q7_90 qs_56 q1_11 q7_91) rfl rfl rfl (by decide +kernel) ⟨Nat.le_of_ble_eq_true rfl, Nat.le_of_ble_eq_true rfl⟩) rfl rfl rfl rfl (by decide) rfl rfl rfl rfl rfl rfl (Nat.le_of_ble_eq_true rfl) ⟨Nat.zero_le _, Nat.zero_le _⟩ dX12_isPropped_3 ?_
  refine a_iconst (pc := 6) F dX12_isPropped_6 kc_1 ?_
  refine a_icmp_ne (pc := 7) (tgt := 14) F dX12_isPropped_7 (by decide) (fun h => ?_) (fun h => ?_)
  · replace hf := it_neg h hf
    refine a_iconst (pc := 14) F dX12_isPropped_14 kc_0 ?_
    obtain rfl := Option.some.inj hf
    exact hret _ _ _ _ (Nat.zero_le _) (Nat.zero_le _) (z_nar (Or.inl rfl)) dX12_isPropped_15
  · replace hf := it_pos h hf
    refine a_iconst (pc := 10) F dX12_isPropped_10 kc_1 ?_
    refine a_goto (pc := 11) (tgt := 15) F dX12_isPropped_11 (by decide) ?_
    obtain rfl := Option.some.inj hf
    exact hret _ _ _ _ (Nat.zero_le _) (Nat.zero_le _) (z_nar (Or.inr rfl)) dX12_isPropped_15

abbrev wX12_houseAt : List Cond := Cond.code yX12_houseAt cX12_houseAt 2 (some .int) :: WALL
def m_X12_houseAt (n : Nat) (x0 : Int32) (x1 : Int32) : Option (Int32) :=
some ((32 + (2 * x0)) + x1)
set_option maxHeartbeats 4000000 in
set_option maxRecDepth 100000 in
theorem c_X12_houseAt (l : Launch) (D : va_G) (y : Nat → ClassId) (ek : EK) (n : Nat) (x0 : Int32) (x1 : Int32) (res : Int32) (hf : m_X12_houseAt n x0 x1 = some res) : CI l yX12_houseAt wX12_houseAt { frames := 0, cells := 0, slots := 0, locals := 0 } D y ek [.int x0, .int x1] [] (res) [] 0 0 := by
  unfold m_X12_houseAt at hf
  refine ci_of (cc := cX12_houseAt) (maxL := 2) (by decide) rfl rfl (Nat.le_of_ble_eq_true rfl) ?_
  intro p e s m below meth c Q A F hret
  refine a_lv (lv' := [(0, .int x0), (1, .int x1)]) rfl ?_
  refine a_bipush (pc := 0) F dX12_houseAt_0 kb_32 ?_
  refine a_iconst (pc := 2) F dX12_houseAt_2 kc_2 ?_
  refine a_iloadn (pc := 3) (j := 0) F dX12_houseAt_3 rfl rfl ?_
  refine a_imul (pc := 4) F dX12_houseAt_4 ?_
  refine a_iadd (pc := 5) F dX12_houseAt_5 ?_
  refine a_iloadn (pc := 6) (j := 1) F dX12_houseAt_6 rfl rfl ?_
  refine a_iadd (pc := 7) F dX12_houseAt_7 ?_
  obtain rfl := Option.some.inj hf
  exact hret _ _ _ _ (Nat.zero_le _) (Nat.zero_le _) rfl dX12_houseAt_8

abbrev wX12_of : List Cond := Cond.code yX12_of cX12_of 3 (some .int) :: WALL
def m_X12_of (n : Nat) (v0 : St) (x1 : Int32) (x2 : Int32) : Option (Int32) :=
bd (m_X12_houseAt n x1 x2) (fun t1 =>
(if ix t1 2080 then some (v0 1 (t1).toNatClampNeg) else none))
set_option maxHeartbeats 4000000 in
set_option maxRecDepth 100000 in
theorem c_X12_of (l : Launch) (D : va_G) (y : Nat → ClassId) (ek : EK) (n : Nat) (a0 : Nat → Nat) (v0 : St) (x1 : Int32) (x2 : Int32) (res : Int32) (hf : m_X12_of n v0 x1 x2 = some res) : CI l yX12_of wX12_of { frames := 1, cells := 0, slots := 0, locals := 21 } D y ek [.ref (a0 0), .int x1, .int x2] [bX12 y a0 v0] (res) [bX12 y a0 v0] 0 0 := by
  unfold m_X12_of at hf
  refine ci_of (cc := cX12_of) (maxL := 3) (by decide) rfl rfl (Nat.le_of_ble_eq_true rfl) ?_
  intro p e s m below meth c Q A F hret
  refine a_lv (lv' := [(0, .ref (a0 0)), (1, .int x1), (2, .int x2)]) rfl ?_
  refine a_aloadn (pc := 0) (j := 0) F dX12_of_0 rfl rfl ?_
  refine a_get (pc := 1) (kb := 0) (j := 0) (f := 1) F iW_X12 rfl rfl rfl (by decide) (tl q6_69) (fun _ h => h) rfl dX12_of_1 ?_
  refine a_iloadn (pc := 4) (j := 1) F dX12_of_4 rfl rfl ?_
  refine a_iloadn (pc := 5) (j := 2) F dX12_of_5 rfl rfl ?_
  obtain ⟨t1, ht1, hf⟩ := bd_some hf
  refine a_callS (pc := 6) (bs' := [bX12 y a0 v0]) F [] (c_X12_houseAt l D y ek n  _ _ _ ht1) (va_cwS 2 F.1.2.2.2.2 (gS q6_212 q6_213 q1_11 q6_214) rfl rfl rfl (by decide +kernel) ⟨Nat.le_of_ble_eq_true rfl, Nat.le_of_ble_eq_true rfl⟩) (by decide) rfl rfl rfl rfl rfl rfl (Nat.le_of_ble_eq_true rfl) ⟨Nat.zero_le _, Nat.zero_le _⟩ dX12_of_6 ?_
  obtain ⟨h2, hf⟩ := gd_some hf
  refine a_iald (pc := 9) (kb := 0) (j := 1) F rfl rfl h2 dX12_of_9 ?_
  obtain rfl := Option.some.inj hf
  exact hret _ _ _ _ (Nat.zero_le _) (Nat.zero_le _) rfl dX12_of_10

abbrev wX12_thingAt : List Cond := Cond.code yX12_thingAt cX12_thingAt 2 (some .int) :: WALL
def m_X12_thingAt (n : Nat) (x0 : Int32) (x1 : Int32) : Option (Int32) :=
some ((52 + (3 * x0)) + x1)
set_option maxHeartbeats 4000000 in
set_option maxRecDepth 100000 in
theorem c_X12_thingAt (l : Launch) (D : va_G) (y : Nat → ClassId) (ek : EK) (n : Nat) (x0 : Int32) (x1 : Int32) (res : Int32) (hf : m_X12_thingAt n x0 x1 = some res) : CI l yX12_thingAt wX12_thingAt { frames := 0, cells := 0, slots := 0, locals := 0 } D y ek [.int x0, .int x1] [] (res) [] 0 0 := by
  unfold m_X12_thingAt at hf
  refine ci_of (cc := cX12_thingAt) (maxL := 2) (by decide) rfl rfl (Nat.le_of_ble_eq_true rfl) ?_
  intro p e s m below meth c Q A F hret
  refine a_lv (lv' := [(0, .int x0), (1, .int x1)]) rfl ?_
  refine a_bipush (pc := 0) F dX12_thingAt_0 kb_52 ?_
  refine a_iconst (pc := 2) F dX12_thingAt_2 kc_3 ?_
  refine a_iloadn (pc := 3) (j := 0) F dX12_thingAt_3 rfl rfl ?_
  refine a_imul (pc := 4) F dX12_thingAt_4 ?_
  refine a_iadd (pc := 5) F dX12_thingAt_5 ?_
  refine a_iloadn (pc := 6) (j := 1) F dX12_thingAt_6 rfl rfl ?_
  refine a_iadd (pc := 7) F dX12_thingAt_7 ?_
  obtain rfl := Option.some.inj hf
  exact hret _ _ _ _ (Nat.zero_le _) (Nat.zero_le _) rfl dX12_thingAt_8

abbrev wX12_ofThing : List Cond := Cond.code yX12_ofThing cX12_ofThing 3 (some .int) :: WALL
def m_X12_ofThing (n : Nat) (v0 : St) (x1 : Int32) (x2 : Int32) : Option (Int32) :=
bd (m_X12_thingAt n x1 x2) (fun t1 =>
(if ix t1 2080 then some (v0 1 (t1).toNatClampNeg) else none))
set_option maxHeartbeats 4000000 in
set_option maxRecDepth 100000 in
theorem c_X12_ofThing (l : Launch) (D : va_G) (y : Nat → ClassId) (ek : EK) (n : Nat) (a0 : Nat → Nat) (v0 : St) (x1 : Int32) (x2 : Int32) (res : Int32) (hf : m_X12_ofThing n v0 x1 x2 = some res) : CI l yX12_ofThing wX12_ofThing { frames := 1, cells := 0, slots := 0, locals := 21 } D y ek [.ref (a0 0), .int x1, .int x2] [bX12 y a0 v0] (res) [bX12 y a0 v0] 0 0 := by
  unfold m_X12_ofThing at hf
  refine ci_of (cc := cX12_ofThing) (maxL := 3) (by decide) rfl rfl (Nat.le_of_ble_eq_true rfl) ?_
  intro p e s m below meth c Q A F hret
  refine a_lv (lv' := [(0, .ref (a0 0)), (1, .int x1), (2, .int x2)]) rfl ?_
  refine a_aloadn (pc := 0) (j := 0) F dX12_ofThing_0 rfl rfl ?_
  refine a_get (pc := 1) (kb := 0) (j := 0) (f := 1) F iW_X12 rfl rfl rfl (by decide) (tl q6_69) (fun _ h => h) rfl dX12_ofThing_1 ?_
  refine a_iloadn (pc := 4) (j := 1) F dX12_ofThing_4 rfl rfl ?_
  refine a_iloadn (pc := 5) (j := 2) F dX12_ofThing_5 rfl rfl ?_
  obtain ⟨t1, ht1, hf⟩ := bd_some hf
  refine a_callS (pc := 6) (bs' := [bX12 y a0 v0]) F [] (c_X12_thingAt l D y ek n  _ _ _ ht1) (va_cwS 2 F.1.2.2.2.2 (gS q7_4 q7_5 q1_11 q7_6) rfl rfl rfl (by decide +kernel) ⟨Nat.le_of_ble_eq_true rfl, Nat.le_of_ble_eq_true rfl⟩) (by decide) rfl rfl rfl rfl rfl rfl (Nat.le_of_ble_eq_true rfl) ⟨Nat.zero_le _, Nat.zero_le _⟩ dX12_ofThing_6 ?_
  obtain ⟨h2, hf⟩ := gd_some hf
  refine a_iald (pc := 9) (kb := 0) (j := 1) F rfl rfl h2 dX12_ofThing_9 ?_
  obtain rfl := Option.some.inj hf
  exact hret _ _ _ _ (Nat.zero_le _) (Nat.zero_le _) rfl dX12_ofThing_10

abbrev wX12_isGone : List Cond := Cond.code yX12_isGone cX12_isGone 2 (some .boolean) :: WALL
def m_X12_isGone (n : Nat) (v0 : St) (x1 : Int32) : Option (Int32) :=
bd (m_X12_ofThing n v0 x1 2) (fun t1 =>
(if t1 = (-1) then
some 1
else
some 0))
set_option maxHeartbeats 4000000 in
set_option maxRecDepth 100000 in
theorem c_X12_isGone (l : Launch) (D : va_G) (y : Nat → ClassId) (ek : EK) (n : Nat) (a0 : Nat → Nat) (v0 : St) (x1 : Int32) (res : Int32) (hf : m_X12_isGone n v0 x1 = some res) : CI l yX12_isGone wX12_isGone { frames := 2, cells := 0, slots := 0, locals := 43 } D y ek [.ref (a0 0), .int x1] [bX12 y a0 v0] (res) [bX12 y a0 v0] 0 0 := by
  unfold m_X12_isGone at hf
  refine ci_of (cc := cX12_isGone) (maxL := 2) (by decide) rfl rfl (Nat.le_of_ble_eq_true rfl) ?_
  intro p e s m below meth c Q A F hret
  refine a_lv (lv' := [(0, .ref (a0 0)), (1, .int x1)]) rfl ?_
  refine a_aloadn (pc := 0) (j := 0) F dX12_isGone_0 rfl rfl ?_
  refine a_iloadn (pc := 1) (j := 1) F dX12_isGone_1 rfl rfl ?_
  refine a_iconst (pc := 2) F dX12_isGone_2 kc_2 ?_
  obtain ⟨t1, ht1, hf⟩ := bd_some hf
  refine a_callV (pc := 3) (bs' := [bX12 y a0 v0]) (kb := 0) (j := 0) F [0] (c_X12_ofThing l D y ek n a0 _ _ _ _ ht1) (cwV 2 F.1.2.2.2.2 (gV q7_100 q7_102 qs_59 q1_11 q7_103) rfl rfl rfl (by decide +kernel) ⟨Nat.le_of_ble_eq_true rfl, Nat.le_of_ble_eq_true rfl⟩) rfl rfl rfl rfl (by decide) rfl rfl rfl rfl rfl rfl (Nat.le_of_ble_eq_true rfl) ⟨Nat.zero_le _, Nat.zero_le _⟩ dX12_isGone_3 ?_
  refine a_iconst (pc := 6) F dX12_isGone_6 kc_m1 ?_
  refine a_icmp_ne (pc := 7) (tgt := 14) F dX12_isGone_7 (by decide) (fun h => ?_) (fun h => ?_)
  · replace hf := it_neg h hf
    refine a_iconst (pc := 14) F dX12_isGone_14 kc_0 ?_
    obtain rfl := Option.some.inj hf
    exact hret _ _ _ _ (Nat.zero_le _) (Nat.zero_le _) (z_nar (Or.inl rfl)) dX12_isGone_15
  · replace hf := it_pos h hf
    refine a_iconst (pc := 10) F dX12_isGone_10 kc_1 ?_
    refine a_goto (pc := 11) (tgt := 15) F dX12_isGone_11 (by decide) ?_
    obtain rfl := Option.some.inj hf
    exact hret _ _ _ _ (Nat.zero_le _) (Nat.zero_le _) (z_nar (Or.inr rfl)) dX12_isGone_15

abbrev wX12_noPlank : List Cond := Cond.code yX12_noPlank cX12_noPlank 2 (some .boolean) :: WALL
def m_X12_noPlank (n : Nat) (v0 : St) (x1 : Int32) : Option (Int32) :=
bd (m_X12_planks n v0) (fun t1 =>
bd (m_X12_in n x1 0 (t1 - 1)) (fun t2 =>
(if t2 = 0 then
some 1
else
some 0)))
set_option maxHeartbeats 4000000 in
set_option maxRecDepth 100000 in
theorem c_X12_noPlank (l : Launch) (D : va_G) (y : Nat → ClassId) (ek : EK) (n : Nat) (a0 : Nat → Nat) (v0 : St) (x1 : Int32) (res : Int32) (hf : m_X12_noPlank n v0 x1 = some res) : CI l yX12_noPlank wX12_noPlank { frames := 1, cells := 0, slots := 0, locals := 22 } D y ek [.ref (a0 0), .int x1] [bX12 y a0 v0] (res) [bX12 y a0 v0] 0 0 := by
  unfold m_X12_noPlank at hf
  refine ci_of (cc := cX12_noPlank) (maxL := 2) (by decide) rfl rfl (Nat.le_of_ble_eq_true rfl) ?_
  intro p e s m below meth c Q A F hret
  refine a_lv (lv' := [(0, .ref (a0 0)), (1, .int x1)]) rfl ?_
  refine a_iloadn (pc := 0) (j := 1) F dX12_noPlank_0 rfl rfl ?_
  refine a_iconst (pc := 1) F dX12_noPlank_1 kc_0 ?_
  refine a_aloadn (pc := 2) (j := 0) F dX12_noPlank_2 rfl rfl ?_
  obtain ⟨t1, ht1, hf⟩ := bd_some hf
  refine a_callV (pc := 3) (bs' := [bX12 y a0 v0]) (kb := 0) (j := 0) F [0] (c_X12_planks l D y ek n a0 _ _ ht1) (cwV 0 F.1.2.2.2.2 (gV q6_196 q6_198 qs_34 q1_11 q6_199) rfl rfl rfl (by decide +kernel) ⟨Nat.le_of_ble_eq_true rfl, Nat.le_of_ble_eq_true rfl⟩) rfl rfl rfl rfl (by decide) rfl rfl rfl rfl rfl rfl (Nat.le_of_ble_eq_true rfl) ⟨Nat.zero_le _, Nat.zero_le _⟩ dX12_noPlank_3 ?_
  refine a_iconst (pc := 6) F dX12_noPlank_6 kc_1 ?_
  refine a_isub (pc := 7) F dX12_noPlank_7 ?_
  obtain ⟨t2, ht2, hf⟩ := bd_some hf
  refine a_callS (pc := 8) (bs' := [bX12 y a0 v0]) F [] (c_X12_in l D y ek n  _ _ _ _ ht2) (va_cwS 3 F.1.2.2.2.2 (gS q7_77 q7_78 q1_11 q7_79) rfl rfl rfl (by decide +kernel) ⟨Nat.le_of_ble_eq_true rfl, Nat.le_of_ble_eq_true rfl⟩) (by decide) rfl rfl rfl rfl rfl rfl (Nat.le_of_ble_eq_true rfl) ⟨Nat.zero_le _, Nat.zero_le _⟩ dX12_noPlank_8 ?_
  refine a_if_ne (pc := 11) (tgt := 18) F dX12_noPlank_11 (by decide) (fun h => ?_) (fun h => ?_)
  · replace hf := it_neg h hf
    refine a_iconst (pc := 18) F dX12_noPlank_18 kc_0 ?_
    obtain rfl := Option.some.inj hf
    exact hret _ _ _ _ (Nat.zero_le _) (Nat.zero_le _) (z_nar (Or.inl rfl)) dX12_noPlank_19
  · replace hf := it_pos h hf
    refine a_iconst (pc := 14) F dX12_noPlank_14 kc_1 ?_
    refine a_goto (pc := 15) (tgt := 19) F dX12_noPlank_15 (by decide) ?_
    obtain rfl := Option.some.inj hf
    exact hret _ _ _ _ (Nat.zero_le _) (Nat.zero_le _) (z_nar (Or.inr rfl)) dX12_noPlank_19

abbrev wX12_noHouse : List Cond := Cond.code yX12_noHouse cX12_noHouse 2 (some .boolean) :: WALL
def m_X12_noHouse (n : Nat) (v0 : St) (x1 : Int32) : Option (Int32) :=
bd (m_X12_houses n v0) (fun t1 =>
bd (m_X12_in n x1 0 (t1 - 1)) (fun t2 =>
(if t2 = 0 then
some 1
else
some 0)))
set_option maxHeartbeats 4000000 in
set_option maxRecDepth 100000 in
theorem c_X12_noHouse (l : Launch) (D : va_G) (y : Nat → ClassId) (ek : EK) (n : Nat) (a0 : Nat → Nat) (v0 : St) (x1 : Int32) (res : Int32) (hf : m_X12_noHouse n v0 x1 = some res) : CI l yX12_noHouse wX12_noHouse { frames := 2, cells := 0, slots := 0, locals := 40 } D y ek [.ref (a0 0), .int x1] [bX12 y a0 v0] (res) [bX12 y a0 v0] 0 0 := by
  unfold m_X12_noHouse at hf
  refine ci_of (cc := cX12_noHouse) (maxL := 2) (by decide) rfl rfl (Nat.le_of_ble_eq_true rfl) ?_
  intro p e s m below meth c Q A F hret
  refine a_lv (lv' := [(0, .ref (a0 0)), (1, .int x1)]) rfl ?_
  refine a_iloadn (pc := 0) (j := 1) F dX12_noHouse_0 rfl rfl ?_
  refine a_iconst (pc := 1) F dX12_noHouse_1 kc_0 ?_
  refine a_aloadn (pc := 2) (j := 0) F dX12_noHouse_2 rfl rfl ?_
  obtain ⟨t1, ht1, hf⟩ := bd_some hf
  refine a_callV (pc := 3) (bs' := [bX12 y a0 v0]) (kb := 0) (j := 0) F [0] (c_X12_houses l D y ek n a0 _ _ ht1) (cwV 0 F.1.2.2.2.2 (gV q6_220 q6_222 qs_38 q1_11 q6_223) rfl rfl rfl (by decide +kernel) ⟨Nat.le_of_ble_eq_true rfl, Nat.le_of_ble_eq_true rfl⟩) rfl rfl rfl rfl (by decide) rfl rfl rfl rfl rfl rfl (Nat.le_of_ble_eq_true rfl) ⟨Nat.zero_le _, Nat.zero_le _⟩ dX12_noHouse_3 ?_
  refine a_iconst (pc := 6) F dX12_noHouse_6 kc_1 ?_
  refine a_isub (pc := 7) F dX12_noHouse_7 ?_
  obtain ⟨t2, ht2, hf⟩ := bd_some hf
  refine a_callS (pc := 8) (bs' := [bX12 y a0 v0]) F [] (c_X12_in l D y ek n  _ _ _ _ ht2) (va_cwS 3 F.1.2.2.2.2 (gS q7_77 q7_78 q1_11 q7_79) rfl rfl rfl (by decide +kernel) ⟨Nat.le_of_ble_eq_true rfl, Nat.le_of_ble_eq_true rfl⟩) (by decide) rfl rfl rfl rfl rfl rfl (Nat.le_of_ble_eq_true rfl) ⟨Nat.zero_le _, Nat.zero_le _⟩ dX12_noHouse_8 ?_
  refine a_if_ne (pc := 11) (tgt := 18) F dX12_noHouse_11 (by decide) (fun h => ?_) (fun h => ?_)
  · replace hf := it_neg h hf
    refine a_iconst (pc := 18) F dX12_noHouse_18 kc_0 ?_
    obtain rfl := Option.some.inj hf
    exact hret _ _ _ _ (Nat.zero_le _) (Nat.zero_le _) (z_nar (Or.inl rfl)) dX12_noHouse_19
  · replace hf := it_pos h hf
    refine a_iconst (pc := 14) F dX12_noHouse_14 kc_1 ?_
    refine a_goto (pc := 15) (tgt := 19) F dX12_noHouse_15 (by decide) ?_
    obtain rfl := Option.some.inj hf
    exact hret _ _ _ _ (Nat.zero_le _) (Nat.zero_le _) (z_nar (Or.inr rfl)) dX12_noHouse_19

abbrev wX12_noThing : List Cond := Cond.code yX12_noThing cX12_noThing 2 (some .boolean) :: WALL
def m_X12_noThing (n : Nat) (v0 : St) (x1 : Int32) : Option (Int32) :=
bd (m_X12_things n v0) (fun t1 =>
bd (m_X12_in n x1 0 (t1 - 1)) (fun t2 =>
(if t2 = 0 then
some 1
else
some 0)))
set_option maxHeartbeats 4000000 in
set_option maxRecDepth 100000 in
theorem c_X12_noThing (l : Launch) (D : va_G) (y : Nat → ClassId) (ek : EK) (n : Nat) (a0 : Nat → Nat) (v0 : St) (x1 : Int32) (res : Int32) (hf : m_X12_noThing n v0 x1 = some res) : CI l yX12_noThing wX12_noThing { frames := 1, cells := 0, slots := 0, locals := 22 } D y ek [.ref (a0 0), .int x1] [bX12 y a0 v0] (res) [bX12 y a0 v0] 0 0 := by
  unfold m_X12_noThing at hf
  refine ci_of (cc := cX12_noThing) (maxL := 2) (by decide) rfl rfl (Nat.le_of_ble_eq_true rfl) ?_
  intro p e s m below meth c Q A F hret
  refine a_lv (lv' := [(0, .ref (a0 0)), (1, .int x1)]) rfl ?_
  refine a_iloadn (pc := 0) (j := 1) F dX12_noThing_0 rfl rfl ?_
  refine a_iconst (pc := 1) F dX12_noThing_1 kc_0 ?_
  refine a_aloadn (pc := 2) (j := 0) F dX12_noThing_2 rfl rfl ?_
  obtain ⟨t1, ht1, hf⟩ := bd_some hf
  refine a_callV (pc := 3) (bs' := [bX12 y a0 v0]) (kb := 0) (j := 0) F [0] (c_X12_things l D y ek n a0 _ _ ht1) (cwV 0 F.1.2.2.2.2 (gV q6_234 q6_236 qs_41 q1_11 q6_237) rfl rfl rfl (by decide +kernel) ⟨Nat.le_of_ble_eq_true rfl, Nat.le_of_ble_eq_true rfl⟩) rfl rfl rfl rfl (by decide) rfl rfl rfl rfl rfl rfl (Nat.le_of_ble_eq_true rfl) ⟨Nat.zero_le _, Nat.zero_le _⟩ dX12_noThing_3 ?_
  refine a_iconst (pc := 6) F dX12_noThing_6 kc_1 ?_
  refine a_isub (pc := 7) F dX12_noThing_7 ?_
  obtain ⟨t2, ht2, hf⟩ := bd_some hf
  refine a_callS (pc := 8) (bs' := [bX12 y a0 v0]) F [] (c_X12_in l D y ek n  _ _ _ _ ht2) (va_cwS 3 F.1.2.2.2.2 (gS q7_77 q7_78 q1_11 q7_79) rfl rfl rfl (by decide +kernel) ⟨Nat.le_of_ble_eq_true rfl, Nat.le_of_ble_eq_true rfl⟩) (by decide) rfl rfl rfl rfl rfl rfl (Nat.le_of_ble_eq_true rfl) ⟨Nat.zero_le _, Nat.zero_le _⟩ dX12_noThing_8 ?_
  refine a_if_ne (pc := 11) (tgt := 18) F dX12_noThing_11 (by decide) (fun h => ?_) (fun h => ?_)
  · replace hf := it_neg h hf
    refine a_iconst (pc := 18) F dX12_noThing_18 kc_0 ?_
    obtain rfl := Option.some.inj hf
    exact hret _ _ _ _ (Nat.zero_le _) (Nat.zero_le _) (z_nar (Or.inl rfl)) dX12_noThing_19
  · replace hf := it_pos h hf
    refine a_iconst (pc := 14) F dX12_noThing_14 kc_1 ?_
    refine a_goto (pc := 15) (tgt := 19) F dX12_noThing_15 (by decide) ?_
    obtain rfl := Option.some.inj hf
    exact hret _ _ _ _ (Nat.zero_le _) (Nat.zero_le _) (z_nar (Or.inr rfl)) dX12_noThing_19

abbrev wX12_drawn : List Cond := Cond.code yX12_drawn cX12_drawn 2 (some .int) :: WALL
def m_X12_drawn (n : Nat) (v0 : St) (x1 : Int32) : Option (Int32 × St) :=
nm (su v0 1 11 ((1103515245 * (v0 1 11)) + 12345)) (fun u1 =>
(if ¬ x1 = 0 then some ((x_rem ((x_shr (u1 1 11) 16) &&& 32767) x1), u1) else none))
set_option maxHeartbeats 4000000 in
set_option maxRecDepth 100000 in
theorem c_X12_drawn (l : Launch) (D : va_G) (y : Nat → ClassId) (ek : EK) (n : Nat) (a0 : Nat → Nat) (v0 : St) (x1 : Int32) (res : Int32 × St) (hf : m_X12_drawn n v0 x1 = some res) : CI l yX12_drawn wX12_drawn { frames := 0, cells := 0, slots := 0, locals := 0 } D y ek [.ref (a0 0), .int x1] [bX12 y a0 v0] (res.1) [bX12 y a0 res.2] 0 0 := by
  unfold m_X12_drawn at hf
  refine ci_of (cc := cX12_drawn) (maxL := 2) (by decide) rfl rfl (Nat.le_of_ble_eq_true rfl) ?_
  intro p e s m below meth c Q A F hret
  refine a_lv (lv' := [(0, .ref (a0 0)), (1, .int x1)]) rfl ?_
  refine a_aloadn (pc := 0) (j := 0) F dX12_drawn_0 rfl rfl ?_
  refine a_get (pc := 1) (kb := 0) (j := 0) (f := 1) F iW_X12 rfl rfl rfl (by decide) (tl q6_69) (fun _ h => h) rfl dX12_drawn_1 ?_
  refine a_bipush (pc := 4) F dX12_drawn_4 kb_11 ?_
  refine a_ldc (pc := 6) (v := 1103515245) F (tl q8_48) dX12_drawn_6 ?_
  refine a_aloadn (pc := 8) (j := 0) F dX12_drawn_8 rfl rfl ?_
  refine a_get (pc := 9) (kb := 0) (j := 0) (f := 1) F iW_X12 rfl rfl rfl (by decide) (tl q6_69) (fun _ h => h) rfl dX12_drawn_9 ?_
  refine a_bipush (pc := 12) F dX12_drawn_12 kb_11 ?_
  refine a_ialdc (pc := 14) (kb := 0) (j := 1) (k := 11) F rfl rfl (by decide) (by decide) dX12_drawn_14 ?_
  refine a_imul (pc := 15) F dX12_drawn_15 ?_
  refine a_sipush (pc := 16) F dX12_drawn_16 ks_12345 ?_
  refine a_iadd (pc := 19) F dX12_drawn_19 ?_
  obtain ⟨u1, eu1, hf⟩ := nm_some hf
  refine a_iastc (pc := 20) (kb := 0) (j := 1) (k := 11) (bs' := [bX12 y a0 u1]) F rfl rfl (by decide) (by decide) (by rw [eu1]; rfl) dX12_drawn_20 ?_
  refine a_aloadn (pc := 21) (j := 0) F dX12_drawn_21 rfl rfl ?_
  refine a_get (pc := 22) (kb := 0) (j := 0) (f := 1) F iW_X12 rfl rfl rfl (by decide) (tl q6_69) (fun _ h => h) rfl dX12_drawn_22 ?_
  refine a_bipush (pc := 25) F dX12_drawn_25 kb_11 ?_
  refine a_ialdc (pc := 27) (kb := 0) (j := 1) (k := 11) F rfl rfl (by decide) (by decide) dX12_drawn_27 ?_
  refine a_bipush (pc := 28) F dX12_drawn_28 kb_16 ?_
  refine a_ishr (pc := 30) F dX12_drawn_30 ?_
  refine a_sipush (pc := 31) F dX12_drawn_31 ks_32767 ?_
  refine a_iand (pc := 34) F dX12_drawn_34 ?_
  refine a_iloadn (pc := 35) (j := 1) F dX12_drawn_35 rfl rfl ?_
  obtain ⟨h2, hf⟩ := gd_some hf
  refine a_irem (pc := 36) F dX12_drawn_36 h2 ?_
  obtain rfl := Option.some.inj hf
  exact hret _ _ _ _ (Nat.zero_le _) (Nat.zero_le _) rfl dX12_drawn_37

abbrev wX12_feed : List Cond := Cond.code yX12_feed cX12_feed 7 (some .int) :: WALL
def m_X12_feed (n : Nat) (v0 : St) (x1 : Int32) (x2 : Int32) (x3 : Int32) (x4 : Int32) (x5 : Int32) : Option (Int32 × St) :=
nm (su v0 0 0 0) (fun u1 =>
(if ((u1 9 0) + 20) ≤ 400 then
nm (su u1 15 0 x1) (fun u2 =>
nm (su u2 15 1 x2) (fun u3 =>
nm (su u3 15 2 x3) (fun u4 =>
nm (su u4 15 3 x4) (fun u5 =>
nm (su u5 15 4 x5) (fun u6 =>
bd (lp (fun (rc9 : Int32 × St → Option (St)) (x9l : Int32 × St) =>
(if 20 ≤ x9l.1 then
some x9l.2
else
(if ix (x9l.1 / 4) 5 then (if ix ((x9l.2 9 0) + x9l.1) 400 then nm (su x9l.2 8 (((x9l.2 9 0) + x9l.1)).toNatClampNeg (yb (x_i2b (x_shr (x9l.2 15 ((x9l.1 / 4)).toNatClampNeg) (24 - (8 * (x_rem x9l.1 4))))))) (fun u12 =>
rc9 ((x9l.1 + 1), u12)) else none) else none))) n (0, u6)) (fun (t7 : St) =>
nm (su t7 9 0 ((t7 9 0) + 20)) (fun u8 =>
some ((u8 9 0), u8))))))))
else
some ((-1), u1)))
set_option maxHeartbeats 4000000 in
set_option maxRecDepth 100000 in
theorem c_X12_feed (l : Launch) (D : va_G) (y : Nat → ClassId) (ek : EK) (n : Nat) (a0 : Nat → Nat) (v0 : St) (x1 : Int32) (x2 : Int32) (x3 : Int32) (x4 : Int32) (x5 : Int32) (res : Int32 × St) (hf : m_X12_feed n v0 x1 x2 x3 x4 x5 = some res) : CI l yX12_feed wX12_feed { frames := 0, cells := 0, slots := 0, locals := 0 } D y ek [.ref (a0 0), .int x1, .int x2, .int x3, .int x4, .int x5] [bX12 y a0 v0] (res.1) [bX12 y a0 res.2] 0 0 := by
  unfold m_X12_feed at hf
  refine ci_of (cc := cX12_feed) (maxL := 7) (by decide) rfl rfl (Nat.le_of_ble_eq_true rfl) ?_
  intro p e s m below meth c Q A F hret
  refine a_lv (lv' := [(0, .ref (a0 0)), (1, .int x1), (2, .int x2), (3, .int x3), (4, .int x4), (5, .int x5)]) rfl ?_
  refine a_aloadn (pc := 0) (j := 0) F dX12_feed_0 rfl rfl ?_
  refine a_iconst (pc := 1) F dX12_feed_1 kc_0 ?_
  obtain ⟨u1, eu1, hf⟩ := nm_some hf
  refine a_put (pc := 2) (kb := 0) (j := 0) (f := 0) (ty := .int) (bs' := [bX12 y a0 u1]) F iW_X12 rfl rfl rfl (by decide) (tl q6_68) (fun _ h => h) tyX12 tyX12_ok nmX12 rfl rfl rfl rfl (Nat.le_of_ble_eq_true rfl) (by rw [eu1]; rfl) dX12_feed_2 ?_
  refine a_aloadn (pc := 5) (j := 0) F dX12_feed_5 rfl rfl ?_
  refine a_get (pc := 6) (kb := 0) (j := 0) (f := 9) F iW_X12 rfl rfl rfl (by decide) (tl q6_77) (fun _ h => h) rfl dX12_feed_6 ?_
  refine a_bipush (pc := 9) F dX12_feed_9 kb_20 ?_
  refine a_iadd (pc := 11) F dX12_feed_11 ?_
  refine a_sipush (pc := 12) F dX12_feed_12 ks_400 ?_
  refine a_icmp_le (pc := 15) (tgt := 20) F dX12_feed_15 (by decide) (fun h => ?_) (fun h => ?_)
  · replace hf := it_pos h hf
    refine a_aloadn (pc := 20) (j := 0) F dX12_feed_20 rfl rfl ?_
    refine a_get (pc := 21) (kb := 0) (j := 0) (f := 15) F iW_X12 rfl rfl rfl (by decide) (tl q6_83) (fun _ h => h) rfl dX12_feed_21 ?_
    refine a_iconst (pc := 24) F dX12_feed_24 kc_0 ?_
    refine a_iloadn (pc := 25) (j := 1) F dX12_feed_25 rfl rfl ?_
    obtain ⟨u2, eu2, hf⟩ := nm_some hf
    refine a_iastc (pc := 26) (kb := 0) (j := 7) (k := 0) (bs' := [bX12 y a0 u2]) F rfl rfl (by decide) (by decide) (by rw [eu2]; rfl) dX12_feed_26 ?_
    refine a_aloadn (pc := 27) (j := 0) F dX12_feed_27 rfl rfl ?_
    refine a_get (pc := 28) (kb := 0) (j := 0) (f := 15) F iW_X12 rfl rfl rfl (by decide) (tl q6_83) (fun _ h => h) rfl dX12_feed_28 ?_
    refine a_iconst (pc := 31) F dX12_feed_31 kc_1 ?_
    refine a_iloadn (pc := 32) (j := 2) F dX12_feed_32 rfl rfl ?_
    obtain ⟨u3, eu3, hf⟩ := nm_some hf
    refine a_iastc (pc := 33) (kb := 0) (j := 7) (k := 1) (bs' := [bX12 y a0 u3]) F rfl rfl (by decide) (by decide) (by rw [eu3]; rfl) dX12_feed_33 ?_
    refine a_aloadn (pc := 34) (j := 0) F dX12_feed_34 rfl rfl ?_
    refine a_get (pc := 35) (kb := 0) (j := 0) (f := 15) F iW_X12 rfl rfl rfl (by decide) (tl q6_83) (fun _ h => h) rfl dX12_feed_35 ?_
    refine a_iconst (pc := 38) F dX12_feed_38 kc_2 ?_
    refine a_iloadn (pc := 39) (j := 3) F dX12_feed_39 rfl rfl ?_
    obtain ⟨u4, eu4, hf⟩ := nm_some hf
    refine a_iastc (pc := 40) (kb := 0) (j := 7) (k := 2) (bs' := [bX12 y a0 u4]) F rfl rfl (by decide) (by decide) (by rw [eu4]; rfl) dX12_feed_40 ?_
    refine a_aloadn (pc := 41) (j := 0) F dX12_feed_41 rfl rfl ?_
    refine a_get (pc := 42) (kb := 0) (j := 0) (f := 15) F iW_X12 rfl rfl rfl (by decide) (tl q6_83) (fun _ h => h) rfl dX12_feed_42 ?_
    refine a_iconst (pc := 45) F dX12_feed_45 kc_3 ?_
    refine a_iload (pc := 46) (j := 4) F dX12_feed_46 rfl ?_
    obtain ⟨u5, eu5, hf⟩ := nm_some hf
    refine a_iastc (pc := 48) (kb := 0) (j := 7) (k := 3) (bs' := [bX12 y a0 u5]) F rfl rfl (by decide) (by decide) (by rw [eu5]; rfl) dX12_feed_48 ?_
    refine a_aloadn (pc := 49) (j := 0) F dX12_feed_49 rfl rfl ?_
    refine a_get (pc := 50) (kb := 0) (j := 0) (f := 15) F iW_X12 rfl rfl rfl (by decide) (tl q6_83) (fun _ h => h) rfl dX12_feed_50 ?_
    refine a_iconst (pc := 53) F dX12_feed_53 kc_4 ?_
    refine a_iload (pc := 54) (j := 5) F dX12_feed_54 rfl ?_
    obtain ⟨u6, eu6, hf⟩ := nm_some hf
    refine a_iastc (pc := 56) (kb := 0) (j := 7) (k := 4) (bs' := [bX12 y a0 u6]) F rfl rfl (by decide) (by decide) (by rw [eu6]; rfl) dX12_feed_56 ?_
    refine a_iconst (pc := 57) F dX12_feed_57 kc_0 ?_
    refine a_istore (pc := 58) (lv' := [(0, .ref (a0 0)), (1, .int x1), (2, .int x2), (3, .int x3), (4, .int x4), (5, .int x5), (6, .int 0)]) F [1, 2, 3, 4, 5, 6, 0] dX12_feed_58 (by decide) rfl ?_
    refine a_join 106 (fun (t7 : St) => [(0, .ref (a0 0))]) (fun (t7 : St) => []) (fun (t7 : St) => [bX12 y a0 t7]) hf (fun t7 hf => ?_) (fun t7 hf J7 => ?_)
    · try dsimp only at hf ⊢
      refine a_aloadn (pc := 106) (j := 0) F dX12_feed_106 rfl rfl ?_
      refine a_dup (pc := 107) F dX12_feed_107 rfl ?_
      refine a_get (pc := 108) (kb := 0) (j := 0) (f := 9) F iW_X12 rfl rfl rfl (by decide) (tl q6_77) (fun _ h => h) rfl dX12_feed_108 ?_
      refine a_bipush (pc := 111) F dX12_feed_111 kb_20 ?_
      refine a_iadd (pc := 113) F dX12_feed_113 ?_
      obtain ⟨u8, eu8, hf⟩ := nm_some hf
      refine a_put (pc := 114) (kb := 0) (j := 0) (f := 9) (ty := .int) (bs' := [bX12 y a0 u8]) F iW_X12 rfl rfl rfl (by decide) (tl q6_77) (fun _ h => h) tyX12 tyX12_ok nmX12 rfl rfl rfl rfl (Nat.le_of_ble_eq_true rfl) (by rw [eu8]; rfl) dX12_feed_114 ?_
      refine a_aloadn (pc := 117) (j := 0) F dX12_feed_117 rfl rfl ?_
      refine a_get (pc := 118) (kb := 0) (j := 0) (f := 9) F iW_X12 rfl rfl rfl (by decide) (tl q6_77) (fun _ h => h) rfl dX12_feed_118 ?_
      obtain rfl := Option.some.inj hf
      exact hret _ _ _ _ (Nat.zero_le _) (Nat.zero_le _) rfl dX12_feed_121
    · refine a_sub [0, 6] rfl ?_
      refine a_loop 60 (fun (x9l : Int32 × St) => [(0, .ref (a0 0)), (6, .int x9l.1)]) (fun (x9l : Int32 × St) => [bX12 y a0 x9l.2]) (fun rc9 x9l ih9 hf => ?_) hf rfl rfl
      try dsimp only at hf ⊢
      refine a_iload (pc := 60) (j := 1) F dX12_feed_60 rfl ?_
      refine a_bipush (pc := 62) F dX12_feed_62 kb_20 ?_
      refine a_icmp_ge (pc := 64) (tgt := 106) F dX12_feed_64 (by decide) (fun h => ?_) (fun h => ?_)
      · replace hf := it_pos h hf
        refine a_sub [0] rfl ?_
        obtain rfl := Option.some.inj hf
        exact J7
      · replace hf := it_neg h hf
        refine a_aloadn (pc := 67) (j := 0) F dX12_feed_67 rfl rfl ?_
        refine a_get (pc := 68) (kb := 0) (j := 0) (f := 8) F iW_X12 rfl rfl rfl (by decide) (tl q6_76) (fun _ h => h) rfl dX12_feed_68 ?_
        refine a_aloadn (pc := 71) (j := 0) F dX12_feed_71 rfl rfl ?_
        refine a_get (pc := 72) (kb := 0) (j := 0) (f := 9) F iW_X12 rfl rfl rfl (by decide) (tl q6_77) (fun _ h => h) rfl dX12_feed_72 ?_
        refine a_iload (pc := 75) (j := 1) F dX12_feed_75 rfl ?_
        refine a_iadd (pc := 77) F dX12_feed_77 ?_
        refine a_aloadn (pc := 78) (j := 0) F dX12_feed_78 rfl rfl ?_
        refine a_get (pc := 79) (kb := 0) (j := 0) (f := 15) F iW_X12 rfl rfl rfl (by decide) (tl q6_83) (fun _ h => h) rfl dX12_feed_79 ?_
        refine a_iload (pc := 82) (j := 1) F dX12_feed_82 rfl ?_
        refine a_iconst (pc := 84) F dX12_feed_84 kc_4 ?_
        refine a_idiv (pc := 85) F dX12_feed_85 (by decide) ?_
        obtain ⟨h10, hf⟩ := gd_some hf
        refine a_iald (pc := 86) (kb := 0) (j := 7) F rfl rfl h10 dX12_feed_86 ?_
        refine a_bipush (pc := 87) F dX12_feed_87 kb_24 ?_
        refine a_bipush (pc := 89) F dX12_feed_89 kb_8 ?_
        refine a_iload (pc := 91) (j := 1) F dX12_feed_91 rfl ?_
        refine a_iconst (pc := 93) F dX12_feed_93 kc_4 ?_
        refine a_irem (pc := 94) F dX12_feed_94 (by decide) ?_
        refine a_imul (pc := 95) F dX12_feed_95 ?_
        refine a_isub (pc := 96) F dX12_feed_96 ?_
        refine a_ishr (pc := 97) F dX12_feed_97 ?_
        refine a_i2b (pc := 98) F dX12_feed_98 ?_
        obtain ⟨h11, hf⟩ := gd_some hf
        obtain ⟨u12, eu12, hf⟩ := nm_some hf
        refine a_bast (pc := 99) (kb := 0) (j := 6) (bs' := [bX12 y a0 u12]) F rfl rfl h11 (by rw [eu12]; rfl) dX12_feed_99 ?_
        refine a_iinc (pc := 100) (j := 1) (v := (x9l.1 + 1)) (lv' := [(0, .ref (a0 0)), (6, .int (x9l.1 + 1))]) F [1, 0] dX12_feed_100 rfl ki_1 (by decide) rfl ?_
        refine a_goto (pc := 103) (tgt := 60) F dX12_feed_103 (by decide) ?_
        exact ih9 ((x9l.1 + 1), u12) hf
  · replace hf := it_neg h hf
    refine a_iconst (pc := 18) F dX12_feed_18 kc_m1 ?_
    obtain rfl := Option.some.inj hf
    exact hret _ _ _ _ (Nat.zero_le _) (Nat.zero_le _) rfl dX12_feed_19

abbrev wX12_end : List Cond := Cond.code yX12_end cX12_end 2 (some .boolean) :: WALL
def m_X12_end (n : Nat) (v0 : St) (x1 : Int32) : Option (Int32 × St) :=
nm (su v0 0 0 0) (fun u1 =>
(if x1 < 0 then
some (0, u1)
else
(if x1 ≤ (u1 9 0) then
nm (su u1 9 0 x1) (fun u2 =>
some (1, u2))
else
some (0, u1))))
set_option maxHeartbeats 4000000 in
set_option maxRecDepth 100000 in
theorem c_X12_end (l : Launch) (D : va_G) (y : Nat → ClassId) (ek : EK) (n : Nat) (a0 : Nat → Nat) (v0 : St) (x1 : Int32) (res : Int32 × St) (hf : m_X12_end n v0 x1 = some res) : CI l yX12_end wX12_end { frames := 0, cells := 0, slots := 0, locals := 0 } D y ek [.ref (a0 0), .int x1] [bX12 y a0 v0] (res.1) [bX12 y a0 res.2] 0 0 := by
  unfold m_X12_end at hf
  refine ci_of (cc := cX12_end) (maxL := 2) (by decide) rfl rfl (Nat.le_of_ble_eq_true rfl) ?_
  intro p e s m below meth c Q A F hret
  refine a_lv (lv' := [(0, .ref (a0 0)), (1, .int x1)]) rfl ?_
  refine a_aloadn (pc := 0) (j := 0) F dX12_end_0 rfl rfl ?_
  refine a_iconst (pc := 1) F dX12_end_1 kc_0 ?_
  obtain ⟨u1, eu1, hf⟩ := nm_some hf
  refine a_put (pc := 2) (kb := 0) (j := 0) (f := 0) (ty := .int) (bs' := [bX12 y a0 u1]) F iW_X12 rfl rfl rfl (by decide) (tl q6_68) (fun _ h => h) tyX12 tyX12_ok nmX12 rfl rfl rfl rfl (Nat.le_of_ble_eq_true rfl) (by rw [eu1]; rfl) dX12_end_2 ?_
  refine a_iloadn (pc := 5) (j := 1) F dX12_end_5 rfl rfl ?_
  refine a_if_lt (pc := 6) (tgt := 17) F dX12_end_6 (by decide) (fun h => ?_) (fun h => ?_)
  · replace hf := it_pos h hf
    refine a_iconst (pc := 17) F dX12_end_17 kc_0 ?_
    obtain rfl := Option.some.inj hf
    exact hret _ _ _ _ (Nat.zero_le _) (Nat.zero_le _) (z_nar (Or.inl rfl)) dX12_end_18
  · replace hf := it_neg h hf
    refine a_iloadn (pc := 9) (j := 1) F dX12_end_9 rfl rfl ?_
    refine a_aloadn (pc := 10) (j := 0) F dX12_end_10 rfl rfl ?_
    refine a_get (pc := 11) (kb := 0) (j := 0) (f := 9) F iW_X12 rfl rfl rfl (by decide) (tl q6_77) (fun _ h => h) rfl dX12_end_11 ?_
    refine a_icmp_le (pc := 14) (tgt := 19) F dX12_end_14 (by decide) (fun h => ?_) (fun h => ?_)
    · replace hf := it_pos h hf
      refine a_aloadn (pc := 19) (j := 0) F dX12_end_19 rfl rfl ?_
      refine a_iloadn (pc := 20) (j := 1) F dX12_end_20 rfl rfl ?_
      obtain ⟨u2, eu2, hf⟩ := nm_some hf
      refine a_put (pc := 21) (kb := 0) (j := 0) (f := 9) (ty := .int) (bs' := [bX12 y a0 u2]) F iW_X12 rfl rfl rfl (by decide) (tl q6_77) (fun _ h => h) tyX12 tyX12_ok nmX12 rfl rfl rfl rfl (Nat.le_of_ble_eq_true rfl) (by rw [eu2]; rfl) dX12_end_21 ?_
      refine a_iconst (pc := 24) F dX12_end_24 kc_1 ?_
      obtain rfl := Option.some.inj hf
      exact hret _ _ _ _ (Nat.zero_le _) (Nat.zero_le _) (z_nar (Or.inr rfl)) dX12_end_25
    · replace hf := it_neg h hf
      refine a_iconst (pc := 17) F dX12_end_17 kc_0 ?_
      obtain rfl := Option.some.inj hf
      exact hret _ _ _ _ (Nat.zero_le _) (Nat.zero_le _) (z_nar (Or.inl rfl)) dX12_end_18

abbrev wX12_isAt : List Cond := Cond.code yX12_isAt cX12_isAt 3 (some .boolean) :: WALL
def m_X12_isAt (n : Nat) (v0 : St) (x1 : Int32) (x2 : Int32) : Option (Int32) :=
jn (fun (t1 : Unit) =>
some 0) (fun (K1 : Unit → Option (Int32)) =>
(if (v0 11 0) ≤ (v0 10 0) then
K1 ()
else
(if ix (v0 10 0) 400 then (if (v0 8 ((v0 10 0)).toNatClampNeg) < x1 then
K1 ()
else
(if ix (v0 10 0) 400 then (if x2 < (v0 8 ((v0 10 0)).toNatClampNeg) then
K1 ()
else
some 1) else none)) else none)))
set_option maxHeartbeats 4000000 in
set_option maxRecDepth 100000 in
theorem c_X12_isAt (l : Launch) (D : va_G) (y : Nat → ClassId) (ek : EK) (n : Nat) (a0 : Nat → Nat) (v0 : St) (x1 : Int32) (x2 : Int32) (res : Int32) (hf : m_X12_isAt n v0 x1 x2 = some res) : CI l yX12_isAt wX12_isAt { frames := 0, cells := 0, slots := 0, locals := 0 } D y ek [.ref (a0 0), .int x1, .int x2] [bX12 y a0 v0] (res) [bX12 y a0 v0] 0 0 := by
  unfold m_X12_isAt at hf
  refine ci_of (cc := cX12_isAt) (maxL := 3) (by decide) rfl rfl (Nat.le_of_ble_eq_true rfl) ?_
  intro p e s m below meth c Q A F hret
  refine a_lv (lv' := [(0, .ref (a0 0)), (1, .int x1), (2, .int x2)]) rfl ?_
  refine a_aloadn (pc := 0) (j := 0) F dX12_isAt_0 rfl rfl ?_
  refine a_get (pc := 1) (kb := 0) (j := 0) (f := 10) F iW_X12 rfl rfl rfl (by decide) (tl q6_78) (fun _ h => h) rfl dX12_isAt_1 ?_
  refine a_aloadn (pc := 4) (j := 0) F dX12_isAt_4 rfl rfl ?_
  refine a_get (pc := 5) (kb := 0) (j := 0) (f := 11) F iW_X12 rfl rfl rfl (by decide) (tl q6_79) (fun _ h => h) rfl dX12_isAt_5 ?_
  refine a_jn 41 (fun (t1 : Unit) => []) (fun (t1 : Unit) => []) (fun (t1 : Unit) => [bX12 y a0 v0]) hf (fun t1 hf => ?_) (fun K1 hK1 hf => ?_)
  · try dsimp only at hf ⊢
    refine a_iconst (pc := 41) F dX12_isAt_41 kc_0 ?_
    obtain rfl := Option.some.inj hf
    exact hret _ _ _ _ (Nat.zero_le _) (Nat.zero_le _) (z_nar (Or.inl rfl)) dX12_isAt_42
  · try dsimp only at hf
    refine a_icmp_ge (pc := 8) (tgt := 41) F dX12_isAt_8 (by decide) (fun h => ?_) (fun h => ?_)
    · replace hf := it_pos h hf
      refine a_sub [] rfl ?_
      exact hK1 () hf
    · replace hf := it_neg h hf
      refine a_aloadn (pc := 11) (j := 0) F dX12_isAt_11 rfl rfl ?_
      refine a_get (pc := 12) (kb := 0) (j := 0) (f := 8) F iW_X12 rfl rfl rfl (by decide) (tl q6_76) (fun _ h => h) rfl dX12_isAt_12 ?_
      refine a_aloadn (pc := 15) (j := 0) F dX12_isAt_15 rfl rfl ?_
      refine a_get (pc := 16) (kb := 0) (j := 0) (f := 10) F iW_X12 rfl rfl rfl (by decide) (tl q6_78) (fun _ h => h) rfl dX12_isAt_16 ?_
      obtain ⟨h2, hf⟩ := gd_some hf
      refine a_bald (pc := 19) (kb := 0) (j := 6) F rfl rfl h2 dX12_isAt_19 ?_
      refine a_iloadn (pc := 20) (j := 1) F dX12_isAt_20 rfl rfl ?_
      refine a_icmp_lt (pc := 21) (tgt := 41) F dX12_isAt_21 (by decide) (fun h => ?_) (fun h => ?_)
      · replace hf := it_pos h hf
        refine a_sub [] rfl ?_
        exact hK1 () hf
      · replace hf := it_neg h hf
        refine a_aloadn (pc := 24) (j := 0) F dX12_isAt_24 rfl rfl ?_
        refine a_get (pc := 25) (kb := 0) (j := 0) (f := 8) F iW_X12 rfl rfl rfl (by decide) (tl q6_76) (fun _ h => h) rfl dX12_isAt_25 ?_
        refine a_aloadn (pc := 28) (j := 0) F dX12_isAt_28 rfl rfl ?_
        refine a_get (pc := 29) (kb := 0) (j := 0) (f := 10) F iW_X12 rfl rfl rfl (by decide) (tl q6_78) (fun _ h => h) rfl dX12_isAt_29 ?_
        obtain ⟨h3, hf⟩ := gd_some hf
        refine a_bald (pc := 32) (kb := 0) (j := 6) F rfl rfl h3 dX12_isAt_32 ?_
        refine a_iloadn (pc := 33) (j := 2) F dX12_isAt_33 rfl rfl ?_
        refine a_icmp_gt (pc := 34) (tgt := 41) F dX12_isAt_34 (by decide) (fun h => ?_) (fun h => ?_)
        · replace hf := it_pos h hf
          refine a_sub [] rfl ?_
          exact hK1 () hf
        · replace hf := it_neg h hf
          refine a_iconst (pc := 37) F dX12_isAt_37 kc_1 ?_
          refine a_goto (pc := 38) (tgt := 42) F dX12_isAt_38 (by decide) ?_
          obtain rfl := Option.some.inj hf
          exact hret _ _ _ _ (Nat.zero_le _) (Nat.zero_le _) (z_nar (Or.inr rfl)) dX12_isAt_42

abbrev wX12_blanks : List Cond := Cond.code yX12_blanks cX12_blanks 1 none :: WALL
def m_X12_blanks (n : Nat) (v0 : St) : Option (St) :=
bd (lp (fun (rc3 : St → Option (St)) (x3l : St) =>
bd (m_X12_isAt n x3l 32 32) (fun t4 =>
(if t4 = 0 then
some x3l
else
nm (su x3l 10 0 ((x3l 10 0) + 1)) (fun u5 =>
rc3 u5)))) n v0) (fun (t1 : St) =>
nm (su t1 12 0 (t1 10 0)) (fun u2 =>
some u2))
set_option maxHeartbeats 4000000 in
set_option maxRecDepth 100000 in
theorem c_X12_blanks (l : Launch) (D : va_G) (y : Nat → ClassId) (ek : EK) (n : Nat) (a0 : Nat → Nat) (v0 : St) (res : St) (hf : m_X12_blanks n v0 = some res) : CV l yX12_blanks wX12_blanks { frames := 1, cells := 0, slots := 0, locals := 22 } D y ek [.ref (a0 0)] [bX12 y a0 v0] [bX12 y a0 res] 0 0 := by
  unfold m_X12_blanks at hf
  refine cv_of (cc := cX12_blanks) (maxL := 1) (by decide) rfl rfl (Nat.le_of_ble_eq_true rfl) ?_
  intro p e s m below meth c Q A F hret
  refine a_lv (lv' := [(0, .ref (a0 0))]) rfl ?_
  refine a_join 24 (fun (t1 : St) => [(0, .ref (a0 0))]) (fun (t1 : St) => []) (fun (t1 : St) => [bX12 y a0 t1]) hf (fun t1 hf => ?_) (fun t1 hf J1 => ?_)
  · try dsimp only at hf ⊢
    refine a_aloadn (pc := 24) (j := 0) F dX12_blanks_24 rfl rfl ?_
    refine a_aloadn (pc := 25) (j := 0) F dX12_blanks_25 rfl rfl ?_
    refine a_get (pc := 26) (kb := 0) (j := 0) (f := 10) F iW_X12 rfl rfl rfl (by decide) (tl q6_78) (fun _ h => h) rfl dX12_blanks_26 ?_
    obtain ⟨u2, eu2, hf⟩ := nm_some hf
    refine a_put (pc := 29) (kb := 0) (j := 0) (f := 12) (ty := .int) (bs' := [bX12 y a0 u2]) F iW_X12 rfl rfl rfl (by decide) (tl q6_80) (fun _ h => h) tyX12 tyX12_ok nmX12 rfl rfl rfl rfl (Nat.le_of_ble_eq_true rfl) (by rw [eu2]; rfl) dX12_blanks_29 ?_
    obtain rfl := Option.some.inj hf
    exact hret _ _ _ _ (Nat.zero_le _) (Nat.zero_le _) dX12_blanks_32
  · refine a_loop 0 (fun (x3l : St) => [(0, .ref (a0 0))]) (fun (x3l : St) => [bX12 y a0 x3l]) (fun rc3 x3l ih3 hf => ?_) hf rfl rfl
    try dsimp only at hf ⊢
    refine a_aloadn (pc := 0) (j := 0) F dX12_blanks_0 rfl rfl ?_
    refine a_bipush (pc := 1) F dX12_blanks_1 kb_32 ?_
    refine a_bipush (pc := 3) F dX12_blanks_3 kb_32 ?_
    obtain ⟨t4, ht4, hf⟩ := bd_some hf
    refine a_callV (pc := 5) (bs' := [bX12 y a0 x3l]) (kb := 0) (j := 0) F [0] (c_X12_isAt l D y ek n a0 _ _ _ _ ht4) (cwV 2 F.1.2.2.2.2 (gV q6_169 q6_171 qs_28 q1_11 q6_172) rfl rfl rfl (by decide +kernel) ⟨Nat.le_of_ble_eq_true rfl, Nat.le_of_ble_eq_true rfl⟩) rfl rfl rfl rfl (by decide) rfl rfl rfl rfl rfl rfl (Nat.le_of_ble_eq_true rfl) ⟨Nat.zero_le _, Nat.zero_le _⟩ dX12_blanks_5 ?_
    refine a_if_eq (pc := 8) (tgt := 24) F dX12_blanks_8 (by decide) (fun h => ?_) (fun h => ?_)
    · replace hf := it_pos h hf
      obtain rfl := Option.some.inj hf
      exact J1
    · replace hf := it_neg h hf
      refine a_aloadn (pc := 11) (j := 0) F dX12_blanks_11 rfl rfl ?_
      refine a_dup (pc := 12) F dX12_blanks_12 rfl ?_
      refine a_get (pc := 13) (kb := 0) (j := 0) (f := 10) F iW_X12 rfl rfl rfl (by decide) (tl q6_78) (fun _ h => h) rfl dX12_blanks_13 ?_
      refine a_iconst (pc := 16) F dX12_blanks_16 kc_1 ?_
      refine a_iadd (pc := 17) F dX12_blanks_17 ?_
      obtain ⟨u5, eu5, hf⟩ := nm_some hf
      refine a_put (pc := 18) (kb := 0) (j := 0) (f := 10) (ty := .int) (bs' := [bX12 y a0 u5]) F iW_X12 rfl rfl rfl (by decide) (tl q6_78) (fun _ h => h) tyX12 tyX12_ok nmX12 rfl rfl rfl rfl (Nat.le_of_ble_eq_true rfl) (by rw [eu5]; rfl) dX12_blanks_18 ?_
      refine a_goto (pc := 21) (tgt := 0) F dX12_blanks_21 (by decide) ?_
      exact ih3 u5 hf

abbrev wX12_letters : List Cond := Cond.code yX12_letters cX12_letters 1 none :: WALL
def m_X12_letters (n : Nat) (v0 : St) : Option (St) :=
bd (m_X12_blanks n v0) (fun t1 =>
lp (fun (rc2 : St → Option (St)) (x2l : St) =>
bd (m_X12_isAt n x2l 97 122) (fun t3 =>
(if t3 = 0 then
some x2l
else
nm (su x2l 10 0 ((x2l 10 0) + 1)) (fun u4 =>
rc2 u4)))) n t1)
set_option maxHeartbeats 4000000 in
set_option maxRecDepth 100000 in
theorem c_X12_letters (l : Launch) (D : va_G) (y : Nat → ClassId) (ek : EK) (n : Nat) (a0 : Nat → Nat) (v0 : St) (res : St) (hf : m_X12_letters n v0 = some res) : CV l yX12_letters wX12_letters { frames := 2, cells := 0, slots := 0, locals := 42 } D y ek [.ref (a0 0)] [bX12 y a0 v0] [bX12 y a0 res] 0 0 := by
  unfold m_X12_letters at hf
  refine cv_of (cc := cX12_letters) (maxL := 1) (by decide) rfl rfl (Nat.le_of_ble_eq_true rfl) ?_
  intro p e s m below meth c Q A F hret
  refine a_lv (lv' := [(0, .ref (a0 0))]) rfl ?_
  refine a_aloadn (pc := 0) (j := 0) F dX12_letters_0 rfl rfl ?_
  obtain ⟨t1, ht1, hf⟩ := bd_some hf
  refine a_callVv (pc := 1) (bs' := [bX12 y a0 t1]) (kb := 0) (j := 0) F [0] (c_X12_blanks l D y ek n a0 _ _ ht1) (cwV 0 F.1.2.2.2.2 (gV q6_165 q6_167 qs_27 q1_11 q6_168) rfl rfl rfl (by decide +kernel) ⟨Nat.le_of_ble_eq_true rfl, Nat.le_of_ble_eq_true rfl⟩) rfl rfl rfl rfl (by decide) rfl rfl rfl rfl rfl rfl (Nat.le_of_ble_eq_true rfl) ⟨Nat.zero_le _, Nat.zero_le _⟩ dX12_letters_1 ?_
  refine a_loop 4 (fun (x2l : St) => [(0, .ref (a0 0))]) (fun (x2l : St) => [bX12 y a0 x2l]) (fun rc2 x2l ih2 hf => ?_) hf rfl rfl
  try dsimp only at hf ⊢
  refine a_aloadn (pc := 4) (j := 0) F dX12_letters_4 rfl rfl ?_
  refine a_bipush (pc := 5) F dX12_letters_5 kb_97 ?_
  refine a_bipush (pc := 7) F dX12_letters_7 kb_122 ?_
  obtain ⟨t3, ht3, hf⟩ := bd_some hf
  refine a_callV (pc := 9) (bs' := [bX12 y a0 x2l]) (kb := 0) (j := 0) F [0] (c_X12_isAt l D y ek n a0 _ _ _ _ ht3) (cwV 2 F.1.2.2.2.2 (gV q6_169 q6_171 qs_28 q1_11 q6_172) rfl rfl rfl (by decide +kernel) ⟨Nat.le_of_ble_eq_true rfl, Nat.le_of_ble_eq_true rfl⟩) rfl rfl rfl rfl (by decide) rfl rfl rfl rfl rfl rfl (Nat.le_of_ble_eq_true rfl) ⟨Nat.zero_le _, Nat.zero_le _⟩ dX12_letters_9 ?_
  refine a_if_eq (pc := 12) (tgt := 28) F dX12_letters_12 (by decide) (fun h => ?_) (fun h => ?_)
  · replace hf := it_pos h hf
    obtain rfl := Option.some.inj hf
    exact hret _ _ _ _ (Nat.zero_le _) (Nat.zero_le _) dX12_letters_28
  · replace hf := it_neg h hf
    refine a_aloadn (pc := 15) (j := 0) F dX12_letters_15 rfl rfl ?_
    refine a_dup (pc := 16) F dX12_letters_16 rfl ?_
    refine a_get (pc := 17) (kb := 0) (j := 0) (f := 10) F iW_X12 rfl rfl rfl (by decide) (tl q6_78) (fun _ h => h) rfl dX12_letters_17 ?_
    refine a_iconst (pc := 20) F dX12_letters_20 kc_1 ?_
    refine a_iadd (pc := 21) F dX12_letters_21 ?_
    obtain ⟨u4, eu4, hf⟩ := nm_some hf
    refine a_put (pc := 22) (kb := 0) (j := 0) (f := 10) (ty := .int) (bs' := [bX12 y a0 u4]) F iW_X12 rfl rfl rfl (by decide) (tl q6_78) (fun _ h => h) tyX12 tyX12_ok nmX12 rfl rfl rfl rfl (Nat.le_of_ble_eq_true rfl) (by rw [eu4]; rfl) dX12_letters_22 ?_
    refine a_goto (pc := 25) (tgt := 4) F dX12_letters_25 (by decide) ?_
    exact ih2 u4 hf

abbrev wX12_isWord : List Cond := Cond.code yX12_isWord cX12_isWord 4 (some .boolean) :: WALL
def m_X12_isWord (n : Nat) (v0 : St) (s1 : Nat) : Option (Int32) :=
(if s1 < 26 then bd ((if ((v0 10 0) - (v0 12 0)) = (Int32.ofNat (sLen.getD s1 0)) then
some 1
else
some 0)) (fun (t2 : Int32) =>
bd (lp (fun (rc4 : Int32 × Int32 → Option (Int32)) (x4l : Int32 × Int32) =>
(if x4l.1 = 0 then
some x4l.1
else
(if s1 < 26 then (if (Int32.ofNat (sLen.getD s1 0)) ≤ x4l.2 then
some x4l.1
else
(if ix ((v0 12 0) + x4l.2) 400 then (if s1 < 26 then (if ix x4l.2 (sLen.getD s1 0) then bd ((if (v0 8 (((v0 12 0) + x4l.2)).toNatClampNeg) = (s_ch s1 x4l.2) then
some 1
else
some 0)) (fun (t9 : Int32) =>
rc4 (t9, (x4l.2 + 1))) else none) else none) else none)) else none))) n (t2, 0)) (fun (t3 : Int32) =>
(if isb t3 then some t3 else none))) else none)
set_option maxHeartbeats 4000000 in
set_option maxRecDepth 100000 in
theorem c_X12_isWord (l : Launch) (D : va_G) (y : Nat → ClassId) (ek : EK) (n : Nat) (a0 : Nat → Nat) (v0 : St) (s1 : Nat) (res : Int32) (hf : m_X12_isWord n v0 s1 = some res) : CI l yX12_isWord wX12_isWord { frames := 4, cells := 0, slots := 0, locals := 85 } D y ek [.ref (a0 0), .ref (ek.1 s1)] [bX12 y a0 v0] (res) [bX12 y a0 v0] 0 0 := by
  unfold m_X12_isWord at hf
  refine ci_of (cc := cX12_isWord) (maxL := 4) (by decide) rfl rfl (Nat.le_of_ble_eq_true rfl) ?_
  intro p e s m below meth c Q A F hret
  refine a_lv (lv' := [(0, .ref (a0 0)), (1, .ref (ek.1 s1))]) rfl ?_
  refine a_aloadn (pc := 0) (j := 0) F dX12_isWord_0 rfl rfl ?_
  refine a_get (pc := 1) (kb := 0) (j := 0) (f := 10) F iW_X12 rfl rfl rfl (by decide) (tl q6_78) (fun _ h => h) rfl dX12_isWord_1 ?_
  refine a_aloadn (pc := 4) (j := 0) F dX12_isWord_4 rfl rfl ?_
  refine a_get (pc := 5) (kb := 0) (j := 0) (f := 12) F iW_X12 rfl rfl rfl (by decide) (tl q6_80) (fun _ h => h) rfl dX12_isWord_5 ?_
  refine a_isub (pc := 8) F dX12_isWord_8 ?_
  refine a_aloadn (pc := 9) (j := 1) F dX12_isWord_9 rfl rfl ?_
  obtain ⟨h1, hf⟩ := gd_some hf
  refine a_callStr (pc := 10) (i := s1) F h1 (c_J0len l D y ek s1 h1) (cwV 0 F.1.2.2.2.2 (gV q6_190 q3_125 q3_126 q1_12 q3_127) rfl rfl rfl (by decide +kernel) ⟨Nat.le_of_ble_eq_true rfl, Nat.le_of_ble_eq_true rfl⟩) rfl rfl (Nat.le_of_ble_eq_true rfl) ⟨Nat.zero_le _, Nat.zero_le _⟩ dX12_isWord_10 ?_
  refine a_join 21 (fun (t2 : Int32) => [(0, .ref (a0 0)), (1, .ref (ek.1 s1))]) (fun (t2 : Int32) => [.int t2]) (fun (t2 : Int32) => [bX12 y a0 v0]) hf (fun t2 hf => ?_) (fun t2 hf J2 => ?_)
  · try dsimp only at hf ⊢
    refine a_istoren (pc := 21) (lv' := [(0, .ref (a0 0)), (1, .ref (ek.1 s1)), (2, .int t2)]) F [1, 2, 0] dX12_isWord_21 rfl (by decide) rfl ?_
    refine a_iconst (pc := 22) F dX12_isWord_22 kc_0 ?_
    refine a_istoren (pc := 23) (lv' := [(0, .ref (a0 0)), (1, .ref (ek.1 s1)), (2, .int t2), (3, .int 0)]) F [1, 2, 3, 0] dX12_isWord_23 rfl (by decide) rfl ?_
    refine a_join 67 (fun (t3 : Int32) => [(2, .int t3)]) (fun (t3 : Int32) => []) (fun (t3 : Int32) => [bX12 y a0 v0]) hf (fun t3 hf => ?_) (fun t3 hf J3 => ?_)
    · try dsimp only at hf ⊢
      refine a_iloadn (pc := 67) (j := 0) F dX12_isWord_67 rfl rfl ?_
      obtain ⟨hz, hf⟩ := gd_some hf
      obtain rfl := Option.some.inj hf
      exact hret _ _ _ _ (Nat.zero_le _) (Nat.zero_le _) (z_nar hz) dX12_isWord_68
    · refine a_loop 24 (fun (x4l : Int32 × Int32) => [(0, .ref (a0 0)), (1, .ref (ek.1 s1)), (2, .int x4l.1), (3, .int x4l.2)]) (fun (x4l : Int32 × Int32) => [bX12 y a0 v0]) (fun rc4 x4l ih4 hf => ?_) hf rfl rfl
      try dsimp only at hf ⊢
      refine a_iloadn (pc := 24) (j := 2) F dX12_isWord_24 rfl rfl ?_
      refine a_if_eq (pc := 25) (tgt := 67) F dX12_isWord_25 (by decide) (fun h => ?_) (fun h => ?_)
      · replace hf := it_pos h hf
        refine a_sub [2] rfl ?_
        obtain rfl := Option.some.inj hf
        exact J3
      · replace hf := it_neg h hf
        refine a_iloadn (pc := 28) (j := 3) F dX12_isWord_28 rfl rfl ?_
        refine a_aloadn (pc := 29) (j := 1) F dX12_isWord_29 rfl rfl ?_
        obtain ⟨h5, hf⟩ := gd_some hf
        refine a_callStr (pc := 30) (i := s1) F h5 (c_J0len l D y ek s1 h5) (cwV 0 F.1.2.2.2.2 (gV q6_190 q3_125 q3_126 q1_12 q3_127) rfl rfl rfl (by decide +kernel) ⟨Nat.le_of_ble_eq_true rfl, Nat.le_of_ble_eq_true rfl⟩) rfl rfl (Nat.le_of_ble_eq_true rfl) ⟨Nat.zero_le _, Nat.zero_le _⟩ dX12_isWord_30 ?_
        refine a_icmp_ge (pc := 33) (tgt := 67) F dX12_isWord_33 (by decide) (fun h => ?_) (fun h => ?_)
        · replace hf := it_pos h hf
          refine a_sub [2] rfl ?_
          obtain rfl := Option.some.inj hf
          exact J3
        · replace hf := it_neg h hf
          refine a_aloadn (pc := 36) (j := 0) F dX12_isWord_36 rfl rfl ?_
          refine a_get (pc := 37) (kb := 0) (j := 0) (f := 8) F iW_X12 rfl rfl rfl (by decide) (tl q6_76) (fun _ h => h) rfl dX12_isWord_37 ?_
          refine a_aloadn (pc := 40) (j := 0) F dX12_isWord_40 rfl rfl ?_
          refine a_get (pc := 41) (kb := 0) (j := 0) (f := 12) F iW_X12 rfl rfl rfl (by decide) (tl q6_80) (fun _ h => h) rfl dX12_isWord_41 ?_
          refine a_iloadn (pc := 44) (j := 3) F dX12_isWord_44 rfl rfl ?_
          refine a_iadd (pc := 45) F dX12_isWord_45 ?_
          obtain ⟨h6, hf⟩ := gd_some hf
          refine a_bald (pc := 46) (kb := 0) (j := 6) F rfl rfl h6 dX12_isWord_46 ?_
          refine a_aloadn (pc := 47) (j := 1) F dX12_isWord_47 rfl rfl ?_
          refine a_iloadn (pc := 48) (j := 3) F dX12_isWord_48 rfl rfl ?_
          obtain ⟨h7, hf⟩ := gd_some hf
          obtain ⟨h8, hf⟩ := gd_some hf
          refine a_callStr (pc := 49) (i := s1) F h7 (c_J0ch l D y ek s1 x4l.2 h7 h8) (cwV 1 F.1.2.2.2.2 (gV q6_191 q3_135 q3_136 q1_12 q3_137) rfl rfl rfl (by decide +kernel) ⟨Nat.le_of_ble_eq_true rfl, Nat.le_of_ble_eq_true rfl⟩) rfl rfl (Nat.le_of_ble_eq_true rfl) ⟨Nat.zero_le _, Nat.zero_le _⟩ dX12_isWord_49 ?_
          refine a_join 60 (fun (t9 : Int32) => [(0, .ref (a0 0)), (1, .ref (ek.1 s1)), (3, .int x4l.2)]) (fun (t9 : Int32) => [.int t9]) (fun (t9 : Int32) => [bX12 y a0 v0]) hf (fun t9 hf => ?_) (fun t9 hf J9 => ?_)
          · try dsimp only at hf ⊢
            refine a_istoren (pc := 60) (lv' := [(0, .ref (a0 0)), (1, .ref (ek.1 s1)), (2, .int t9), (3, .int x4l.2)]) F [1, 2, 0, 3] dX12_isWord_60 rfl (by decide) rfl ?_
            refine a_iinc (pc := 61) (j := 3) (v := (x4l.2 + 1)) (lv' := [(0, .ref (a0 0)), (1, .ref (ek.1 s1)), (2, .int t9), (3, .int (x4l.2 + 1))]) F [1, 2, 3, 0] dX12_isWord_61 rfl ki_1 (by decide) rfl ?_
            refine a_goto (pc := 64) (tgt := 24) F dX12_isWord_64 (by decide) ?_
            exact ih4 (t9, (x4l.2 + 1)) hf
          · refine a_icmp_ne (pc := 52) (tgt := 59) F dX12_isWord_52 (by decide) (fun h => ?_) (fun h => ?_)
            · replace hf := it_neg h hf
              refine a_iconst (pc := 59) F dX12_isWord_59 kc_0 ?_
              refine a_sub [0, 1, 3] rfl ?_
              obtain rfl := Option.some.inj hf
              exact J9
            · replace hf := it_pos h hf
              refine a_iconst (pc := 55) F dX12_isWord_55 kc_1 ?_
              refine a_goto (pc := 56) (tgt := 60) F dX12_isWord_56 (by decide) ?_
              refine a_sub [0, 1, 3] rfl ?_
              obtain rfl := Option.some.inj hf
              exact J9
  · refine a_icmp_ne (pc := 13) (tgt := 20) F dX12_isWord_13 (by decide) (fun h => ?_) (fun h => ?_)
    · replace hf := it_neg h hf
      refine a_iconst (pc := 20) F dX12_isWord_20 kc_0 ?_
      obtain rfl := Option.some.inj hf
      exact J2
    · replace hf := it_pos h hf
      refine a_iconst (pc := 16) F dX12_isWord_16 kc_1 ?_
      refine a_goto (pc := 17) (tgt := 21) F dX12_isWord_17 (by decide) ?_
      obtain rfl := Option.some.inj hf
      exact J2

abbrev wX12_passes : List Cond := Cond.code yX12_passes cX12_passes 2 (some .boolean) :: WALL
def m_X12_passes (n : Nat) (v0 : St) (s1 : Nat) : Option (Int32 × St) :=
bd (m_X12_letters n v0) (fun t1 =>
bd (m_X12_isWord n t1 s1) (fun t2 =>
(if t2 = 0 then
nm (su t1 10 0 (t1 12 0)) (fun u3 =>
some (0, u3))
else
some (1, t1))))
set_option maxHeartbeats 4000000 in
set_option maxRecDepth 100000 in
theorem c_X12_passes (l : Launch) (D : va_G) (y : Nat → ClassId) (ek : EK) (n : Nat) (a0 : Nat → Nat) (v0 : St) (s1 : Nat) (res : Int32 × St) (hf : m_X12_passes n v0 s1 = some res) : CI l yX12_passes wX12_passes { frames := 5, cells := 0, slots := 0, locals := 108 } D y ek [.ref (a0 0), .ref (ek.1 s1)] [bX12 y a0 v0] (res.1) [bX12 y a0 res.2] 0 0 := by
  unfold m_X12_passes at hf
  refine ci_of (cc := cX12_passes) (maxL := 2) (by decide) rfl rfl (Nat.le_of_ble_eq_true rfl) ?_
  intro p e s m below meth c Q A F hret
  refine a_lv (lv' := [(0, .ref (a0 0)), (1, .ref (ek.1 s1))]) rfl ?_
  refine a_aloadn (pc := 0) (j := 0) F dX12_passes_0 rfl rfl ?_
  obtain ⟨t1, ht1, hf⟩ := bd_some hf
  refine a_callVv (pc := 1) (bs' := [bX12 y a0 t1]) (kb := 0) (j := 0) F [0] (c_X12_letters l D y ek n a0 _ _ ht1) (cwV 0 F.1.2.2.2.2 (gV q6_177 q6_179 qs_30 q1_11 q6_180) rfl rfl rfl (by decide +kernel) ⟨Nat.le_of_ble_eq_true rfl, Nat.le_of_ble_eq_true rfl⟩) rfl rfl rfl rfl (by decide) rfl rfl rfl rfl rfl rfl (Nat.le_of_ble_eq_true rfl) ⟨Nat.zero_le _, Nat.zero_le _⟩ dX12_passes_1 ?_
  refine a_aloadn (pc := 4) (j := 0) F dX12_passes_4 rfl rfl ?_
  refine a_aloadn (pc := 5) (j := 1) F dX12_passes_5 rfl rfl ?_
  obtain ⟨t2, ht2, hf⟩ := bd_some hf
  refine a_callV (pc := 6) (bs' := [bX12 y a0 t1]) (kb := 0) (j := 0) F [0] (c_X12_isWord l D y ek n a0 _ _ _ ht2) (cwV 1 F.1.2.2.2.2 (gV q6_186 q6_188 qs_32 q1_11 q6_189) rfl rfl rfl (by decide +kernel) ⟨Nat.le_of_ble_eq_true rfl, Nat.le_of_ble_eq_true rfl⟩) rfl rfl rfl rfl (by decide) rfl rfl rfl rfl rfl rfl (Nat.le_of_ble_eq_true rfl) ⟨Nat.zero_le _, Nat.zero_le _⟩ dX12_passes_6 ?_
  refine a_if_eq (pc := 9) (tgt := 14) F dX12_passes_9 (by decide) (fun h => ?_) (fun h => ?_)
  · replace hf := it_pos h hf
    refine a_aloadn (pc := 14) (j := 0) F dX12_passes_14 rfl rfl ?_
    refine a_aloadn (pc := 15) (j := 0) F dX12_passes_15 rfl rfl ?_
    refine a_get (pc := 16) (kb := 0) (j := 0) (f := 12) F iW_X12 rfl rfl rfl (by decide) (tl q6_80) (fun _ h => h) rfl dX12_passes_16 ?_
    obtain ⟨u3, eu3, hf⟩ := nm_some hf
    refine a_put (pc := 19) (kb := 0) (j := 0) (f := 10) (ty := .int) (bs' := [bX12 y a0 u3]) F iW_X12 rfl rfl rfl (by decide) (tl q6_78) (fun _ h => h) tyX12 tyX12_ok nmX12 rfl rfl rfl rfl (Nat.le_of_ble_eq_true rfl) (by rw [eu3]; rfl) dX12_passes_19 ?_
    refine a_iconst (pc := 22) F dX12_passes_22 kc_0 ?_
    obtain rfl := Option.some.inj hf
    exact hret _ _ _ _ (Nat.zero_le _) (Nat.zero_le _) (z_nar (Or.inl rfl)) dX12_passes_23
  · replace hf := it_neg h hf
    refine a_iconst (pc := 12) F dX12_passes_12 kc_1 ?_
    obtain rfl := Option.some.inj hf
    exact hret _ _ _ _ (Nat.zero_le _) (Nat.zero_le _) (z_nar (Or.inr rfl)) dX12_passes_13

abbrev wX12_sign : List Cond := Cond.code yX12_sign cX12_sign 2 (some .boolean) :: WALL
def m_X12_sign (n : Nat) (v0 : St) (x1 : Int32) : Option (Int32 × St) :=
bd (m_X12_blanks n v0) (fun t1 =>
bd (m_X12_isAt n t1 x1 x1) (fun t2 =>
(if t2 = 0 then
some (0, t1)
else
nm (su t1 10 0 ((t1 10 0) + 1)) (fun u3 =>
some (1, u3)))))
set_option maxHeartbeats 4000000 in
set_option maxRecDepth 100000 in
theorem c_X12_sign (l : Launch) (D : va_G) (y : Nat → ClassId) (ek : EK) (n : Nat) (a0 : Nat → Nat) (v0 : St) (x1 : Int32) (res : Int32 × St) (hf : m_X12_sign n v0 x1 = some res) : CI l yX12_sign wX12_sign { frames := 2, cells := 0, slots := 0, locals := 42 } D y ek [.ref (a0 0), .int x1] [bX12 y a0 v0] (res.1) [bX12 y a0 res.2] 0 0 := by
  unfold m_X12_sign at hf
  refine ci_of (cc := cX12_sign) (maxL := 2) (by decide) rfl rfl (Nat.le_of_ble_eq_true rfl) ?_
  intro p e s m below meth c Q A F hret
  refine a_lv (lv' := [(0, .ref (a0 0)), (1, .int x1)]) rfl ?_
  refine a_aloadn (pc := 0) (j := 0) F dX12_sign_0 rfl rfl ?_
  obtain ⟨t1, ht1, hf⟩ := bd_some hf
  refine a_callVv (pc := 1) (bs' := [bX12 y a0 t1]) (kb := 0) (j := 0) F [0] (c_X12_blanks l D y ek n a0 _ _ ht1) (cwV 0 F.1.2.2.2.2 (gV q6_165 q6_167 qs_27 q1_11 q6_168) rfl rfl rfl (by decide +kernel) ⟨Nat.le_of_ble_eq_true rfl, Nat.le_of_ble_eq_true rfl⟩) rfl rfl rfl rfl (by decide) rfl rfl rfl rfl rfl rfl (Nat.le_of_ble_eq_true rfl) ⟨Nat.zero_le _, Nat.zero_le _⟩ dX12_sign_1 ?_
  refine a_aloadn (pc := 4) (j := 0) F dX12_sign_4 rfl rfl ?_
  refine a_iloadn (pc := 5) (j := 1) F dX12_sign_5 rfl rfl ?_
  refine a_iloadn (pc := 6) (j := 1) F dX12_sign_6 rfl rfl ?_
  obtain ⟨t2, ht2, hf⟩ := bd_some hf
  refine a_callV (pc := 7) (bs' := [bX12 y a0 t1]) (kb := 0) (j := 0) F [0] (c_X12_isAt l D y ek n a0 _ _ _ _ ht2) (cwV 2 F.1.2.2.2.2 (gV q6_169 q6_171 qs_28 q1_11 q6_172) rfl rfl rfl (by decide +kernel) ⟨Nat.le_of_ble_eq_true rfl, Nat.le_of_ble_eq_true rfl⟩) rfl rfl rfl rfl (by decide) rfl rfl rfl rfl rfl rfl (Nat.le_of_ble_eq_true rfl) ⟨Nat.zero_le _, Nat.zero_le _⟩ dX12_sign_7 ?_
  refine a_if_ne (pc := 10) (tgt := 15) F dX12_sign_10 (by decide) (fun h => ?_) (fun h => ?_)
  · replace hf := it_neg h hf
    refine a_aloadn (pc := 15) (j := 0) F dX12_sign_15 rfl rfl ?_
    refine a_dup (pc := 16) F dX12_sign_16 rfl ?_
    refine a_get (pc := 17) (kb := 0) (j := 0) (f := 10) F iW_X12 rfl rfl rfl (by decide) (tl q6_78) (fun _ h => h) rfl dX12_sign_17 ?_
    refine a_iconst (pc := 20) F dX12_sign_20 kc_1 ?_
    refine a_iadd (pc := 21) F dX12_sign_21 ?_
    obtain ⟨u3, eu3, hf⟩ := nm_some hf
    refine a_put (pc := 22) (kb := 0) (j := 0) (f := 10) (ty := .int) (bs' := [bX12 y a0 u3]) F iW_X12 rfl rfl rfl (by decide) (tl q6_78) (fun _ h => h) tyX12 tyX12_ok nmX12 rfl rfl rfl rfl (Nat.le_of_ble_eq_true rfl) (by rw [eu3]; rfl) dX12_sign_22 ?_
    refine a_iconst (pc := 25) F dX12_sign_25 kc_1 ?_
    obtain rfl := Option.some.inj hf
    exact hret _ _ _ _ (Nat.zero_le _) (Nat.zero_le _) (z_nar (Or.inr rfl)) dX12_sign_26
  · replace hf := it_pos h hf
    refine a_iconst (pc := 13) F dX12_sign_13 kc_0 ?_
    obtain rfl := Option.some.inj hf
    exact hret _ _ _ _ (Nat.zero_le _) (Nat.zero_le _) (z_nar (Or.inl rfl)) dX12_sign_14

abbrev wX12_number : List Cond := Cond.code yX12_number cX12_number 4 (some .int) :: WALL
def m_X12_number (n : Nat) (v0 : St) (x1 : Int32) (x2 : Int32) : Option (Int32 × St) :=
bd (m_X12_blanks n v0) (fun t1 =>
bd (lp (fun (rc4 : Int32 × St → Option (Int32 × St)) (x4l : Int32 × St) =>
bd (m_X12_isAt n x4l.2 48 57) (fun t5 =>
(if t5 = 0 then
some (x4l.1, x4l.2)
else
bd ((if 3 ≤ ((x4l.2 10 0) - (x4l.2 12 0)) then
some x4l.1
else
(if ix (x4l.2 10 0) 400 then some (((10 * x4l.1) + (x4l.2 8 ((x4l.2 10 0)).toNatClampNeg)) - 48) else none))) (fun (t6 : Int32) =>
nm (su x4l.2 10 0 ((x4l.2 10 0) + 1)) (fun u7 =>
rc4 (t6, u7)))))) n (0, t1)) (fun (t2 : Int32 × St) =>
jn (fun (t3 : Unit) =>
some ((-1), t2.2)) (fun (K3 : Unit → Option (Int32 × St)) =>
(if (t2.2 10 0) = (t2.2 12 0) then
K3 ()
else
(if 3 < ((t2.2 10 0) - (t2.2 12 0)) then
K3 ()
else
(if t2.1 < x1 then
K3 ()
else
(if t2.1 ≤ x2 then
some (t2.1, t2.2)
else
K3 ())))))))
set_option maxHeartbeats 4000000 in
set_option maxRecDepth 100000 in
theorem c_X12_number (l : Launch) (D : va_G) (y : Nat → ClassId) (ek : EK) (n : Nat) (a0 : Nat → Nat) (v0 : St) (x1 : Int32) (x2 : Int32) (res : Int32 × St) (hf : m_X12_number n v0 x1 x2 = some res) : CI l yX12_number wX12_number { frames := 2, cells := 0, slots := 0, locals := 42 } D y ek [.ref (a0 0), .int x1, .int x2] [bX12 y a0 v0] (res.1) [bX12 y a0 res.2] 0 0 := by
  unfold m_X12_number at hf
  refine ci_of (cc := cX12_number) (maxL := 4) (by decide) rfl rfl (Nat.le_of_ble_eq_true rfl) ?_
  intro p e s m below meth c Q A F hret
  refine a_lv (lv' := [(0, .ref (a0 0)), (1, .int x1), (2, .int x2)]) rfl ?_
  refine a_aloadn (pc := 0) (j := 0) F dX12_number_0 rfl rfl ?_
  obtain ⟨t1, ht1, hf⟩ := bd_some hf
  refine a_callVv (pc := 1) (bs' := [bX12 y a0 t1]) (kb := 0) (j := 0) F [0] (c_X12_blanks l D y ek n a0 _ _ ht1) (cwV 0 F.1.2.2.2.2 (gV q6_165 q6_167 qs_27 q1_11 q6_168) rfl rfl rfl (by decide +kernel) ⟨Nat.le_of_ble_eq_true rfl, Nat.le_of_ble_eq_true rfl⟩) rfl rfl rfl rfl (by decide) rfl rfl rfl rfl rfl rfl (Nat.le_of_ble_eq_true rfl) ⟨Nat.zero_le _, Nat.zero_le _⟩ dX12_number_1 ?_
  refine a_iconst (pc := 4) F dX12_number_4 kc_0 ?_
  refine a_istoren (pc := 5) (lv' := [(0, .ref (a0 0)), (1, .int x1), (2, .int x2), (3, .int 0)]) F [1, 2, 3, 0] dX12_number_5 rfl (by decide) rfl ?_
  refine a_join 65 (fun (t2 : Int32 × St) => [(0, .ref (a0 0)), (1, .int x1), (2, .int x2), (3, .int t2.1)]) (fun (t2 : Int32 × St) => []) (fun (t2 : Int32 × St) => [bX12 y a0 t2.2]) hf (fun t2 hf => ?_) (fun t2 hf J2 => ?_)
  · try dsimp only at hf ⊢
    refine a_aloadn (pc := 65) (j := 0) F dX12_number_65 rfl rfl ?_
    refine a_get (pc := 66) (kb := 0) (j := 0) (f := 10) F iW_X12 rfl rfl rfl (by decide) (tl q6_78) (fun _ h => h) rfl dX12_number_66 ?_
    refine a_aloadn (pc := 69) (j := 0) F dX12_number_69 rfl rfl ?_
    refine a_get (pc := 70) (kb := 0) (j := 0) (f := 12) F iW_X12 rfl rfl rfl (by decide) (tl q6_80) (fun _ h => h) rfl dX12_number_70 ?_
    refine a_jn 99 (fun (t3 : Unit) => []) (fun (t3 : Unit) => []) (fun (t3 : Unit) => [bX12 y a0 t2.2]) hf (fun t3 hf => ?_) (fun K3 hK3 hf => ?_)
    · try dsimp only at hf ⊢
      refine a_iconst (pc := 99) F dX12_number_99 kc_m1 ?_
      refine a_goto (pc := 100) (tgt := 104) F dX12_number_100 (by decide) ?_
      obtain rfl := Option.some.inj hf
      exact hret _ _ _ _ (Nat.zero_le _) (Nat.zero_le _) rfl dX12_number_104
    · try dsimp only at hf
      refine a_icmp_eq (pc := 73) (tgt := 99) F dX12_number_73 (by decide) (fun h => ?_) (fun h => ?_)
      · replace hf := it_pos h hf
        refine a_sub [] rfl ?_
        exact hK3 () hf
      · replace hf := it_neg h hf
        refine a_aloadn (pc := 76) (j := 0) F dX12_number_76 rfl rfl ?_
        refine a_get (pc := 77) (kb := 0) (j := 0) (f := 10) F iW_X12 rfl rfl rfl (by decide) (tl q6_78) (fun _ h => h) rfl dX12_number_77 ?_
        refine a_aloadn (pc := 80) (j := 0) F dX12_number_80 rfl rfl ?_
        refine a_get (pc := 81) (kb := 0) (j := 0) (f := 12) F iW_X12 rfl rfl rfl (by decide) (tl q6_80) (fun _ h => h) rfl dX12_number_81 ?_
        refine a_isub (pc := 84) F dX12_number_84 ?_
        refine a_iconst (pc := 85) F dX12_number_85 kc_3 ?_
        refine a_icmp_gt (pc := 86) (tgt := 99) F dX12_number_86 (by decide) (fun h => ?_) (fun h => ?_)
        · replace hf := it_pos h hf
          refine a_sub [] rfl ?_
          exact hK3 () hf
        · replace hf := it_neg h hf
          refine a_iloadn (pc := 89) (j := 3) F dX12_number_89 rfl rfl ?_
          refine a_iloadn (pc := 90) (j := 1) F dX12_number_90 rfl rfl ?_
          refine a_icmp_lt (pc := 91) (tgt := 99) F dX12_number_91 (by decide) (fun h => ?_) (fun h => ?_)
          · replace hf := it_pos h hf
            refine a_sub [] rfl ?_
            exact hK3 () hf
          · replace hf := it_neg h hf
            refine a_iloadn (pc := 94) (j := 3) F dX12_number_94 rfl rfl ?_
            refine a_iloadn (pc := 95) (j := 2) F dX12_number_95 rfl rfl ?_
            refine a_icmp_le (pc := 96) (tgt := 103) F dX12_number_96 (by decide) (fun h => ?_) (fun h => ?_)
            · replace hf := it_pos h hf
              refine a_iloadn (pc := 103) (j := 3) F dX12_number_103 rfl rfl ?_
              obtain rfl := Option.some.inj hf
              exact hret _ _ _ _ (Nat.zero_le _) (Nat.zero_le _) rfl dX12_number_104
            · replace hf := it_neg h hf
              refine a_sub [] rfl ?_
              exact hK3 () hf
  · refine a_loop 6 (fun (x4l : Int32 × St) => [(0, .ref (a0 0)), (1, .int x1), (2, .int x2), (3, .int x4l.1)]) (fun (x4l : Int32 × St) => [bX12 y a0 x4l.2]) (fun rc4 x4l ih4 hf => ?_) hf rfl rfl
    try dsimp only at hf ⊢
    refine a_aloadn (pc := 6) (j := 0) F dX12_number_6 rfl rfl ?_
    refine a_bipush (pc := 7) F dX12_number_7 kb_48 ?_
    refine a_bipush (pc := 9) F dX12_number_9 kb_57 ?_
    obtain ⟨t5, ht5, hf⟩ := bd_some hf
    refine a_callV (pc := 11) (bs' := [bX12 y a0 x4l.2]) (kb := 0) (j := 0) F [0] (c_X12_isAt l D y ek n a0 _ _ _ _ ht5) (cwV 2 F.1.2.2.2.2 (gV q6_169 q6_171 qs_28 q1_11 q6_172) rfl rfl rfl (by decide +kernel) ⟨Nat.le_of_ble_eq_true rfl, Nat.le_of_ble_eq_true rfl⟩) rfl rfl rfl rfl (by decide) rfl rfl rfl rfl rfl rfl (Nat.le_of_ble_eq_true rfl) ⟨Nat.zero_le _, Nat.zero_le _⟩ dX12_number_11 ?_
    refine a_if_eq (pc := 14) (tgt := 65) F dX12_number_14 (by decide) (fun h => ?_) (fun h => ?_)
    · replace hf := it_pos h hf
      obtain rfl := Option.some.inj hf
      exact J2
    · replace hf := it_neg h hf
      refine a_aloadn (pc := 17) (j := 0) F dX12_number_17 rfl rfl ?_
      refine a_get (pc := 18) (kb := 0) (j := 0) (f := 10) F iW_X12 rfl rfl rfl (by decide) (tl q6_78) (fun _ h => h) rfl dX12_number_18 ?_
      refine a_aloadn (pc := 21) (j := 0) F dX12_number_21 rfl rfl ?_
      refine a_get (pc := 22) (kb := 0) (j := 0) (f := 12) F iW_X12 rfl rfl rfl (by decide) (tl q6_80) (fun _ h => h) rfl dX12_number_22 ?_
      refine a_isub (pc := 25) F dX12_number_25 ?_
      refine a_iconst (pc := 26) F dX12_number_26 kc_3 ?_
      refine a_join 51 (fun (t6 : Int32) => [(0, .ref (a0 0)), (1, .int x1), (2, .int x2)]) (fun (t6 : Int32) => [.int t6]) (fun (t6 : Int32) => [bX12 y a0 x4l.2]) hf (fun t6 hf => ?_) (fun t6 hf J6 => ?_)
      · try dsimp only at hf ⊢
        refine a_istoren (pc := 51) (lv' := [(0, .ref (a0 0)), (1, .int x1), (2, .int x2), (3, .int t6)]) F [1, 2, 3, 0] dX12_number_51 rfl (by decide) rfl ?_
        refine a_aloadn (pc := 52) (j := 0) F dX12_number_52 rfl rfl ?_
        refine a_dup (pc := 53) F dX12_number_53 rfl ?_
        refine a_get (pc := 54) (kb := 0) (j := 0) (f := 10) F iW_X12 rfl rfl rfl (by decide) (tl q6_78) (fun _ h => h) rfl dX12_number_54 ?_
        refine a_iconst (pc := 57) F dX12_number_57 kc_1 ?_
        refine a_iadd (pc := 58) F dX12_number_58 ?_
        obtain ⟨u7, eu7, hf⟩ := nm_some hf
        refine a_put (pc := 59) (kb := 0) (j := 0) (f := 10) (ty := .int) (bs' := [bX12 y a0 u7]) F iW_X12 rfl rfl rfl (by decide) (tl q6_78) (fun _ h => h) tyX12 tyX12_ok nmX12 rfl rfl rfl rfl (Nat.le_of_ble_eq_true rfl) (by rw [eu7]; rfl) dX12_number_59 ?_
        refine a_goto (pc := 62) (tgt := 6) F dX12_number_62 (by decide) ?_
        exact ih4 (t6, u7) hf
      · refine a_icmp_ge (pc := 27) (tgt := 50) F dX12_number_27 (by decide) (fun h => ?_) (fun h => ?_)
        · replace hf := it_pos h hf
          refine a_iloadn (pc := 50) (j := 3) F dX12_number_50 rfl rfl ?_
          refine a_sub [0, 1, 2] rfl ?_
          obtain rfl := Option.some.inj hf
          exact J6
        · replace hf := it_neg h hf
          refine a_bipush (pc := 30) F dX12_number_30 kb_10 ?_
          refine a_iloadn (pc := 32) (j := 3) F dX12_number_32 rfl rfl ?_
          refine a_imul (pc := 33) F dX12_number_33 ?_
          refine a_aloadn (pc := 34) (j := 0) F dX12_number_34 rfl rfl ?_
          refine a_get (pc := 35) (kb := 0) (j := 0) (f := 8) F iW_X12 rfl rfl rfl (by decide) (tl q6_76) (fun _ h => h) rfl dX12_number_35 ?_
          refine a_aloadn (pc := 38) (j := 0) F dX12_number_38 rfl rfl ?_
          refine a_get (pc := 39) (kb := 0) (j := 0) (f := 10) F iW_X12 rfl rfl rfl (by decide) (tl q6_78) (fun _ h => h) rfl dX12_number_39 ?_
          obtain ⟨h8, hf⟩ := gd_some hf
          refine a_bald (pc := 42) (kb := 0) (j := 6) F rfl rfl h8 dX12_number_42 ?_
          refine a_iadd (pc := 43) F dX12_number_43 ?_
          refine a_bipush (pc := 44) F dX12_number_44 kb_48 ?_
          refine a_isub (pc := 46) F dX12_number_46 ?_
          refine a_goto (pc := 47) (tgt := 51) F dX12_number_47 (by decide) ?_
          refine a_sub [0, 1, 2] rfl ?_
          obtain rfl := Option.some.inj hf
          exact J6

abbrev wX12_after : List Cond := Cond.code yX12_after cX12_after 4 (some .int) :: WALL
def m_X12_after (n : Nat) (v0 : St) (s1 : Nat) (x2 : Int32) (x3 : Int32) : Option (Int32 × St) :=
bd (m_X12_letters n v0) (fun t1 =>
bd (m_X12_isWord n t1 s1) (fun t2 =>
(if t2 = 0 then
some ((-1), t1)
else
bd (m_X12_number n t1 x2 x3) (fun t3 =>
some (t3.1, t3.2)))))
set_option maxHeartbeats 4000000 in
set_option maxRecDepth 100000 in
theorem c_X12_after (l : Launch) (D : va_G) (y : Nat → ClassId) (ek : EK) (n : Nat) (a0 : Nat → Nat) (v0 : St) (s1 : Nat) (x2 : Int32) (x3 : Int32) (res : Int32 × St) (hf : m_X12_after n v0 s1 x2 x3 = some res) : CI l yX12_after wX12_after { frames := 5, cells := 0, slots := 0, locals := 108 } D y ek [.ref (a0 0), .ref (ek.1 s1), .int x2, .int x3] [bX12 y a0 v0] (res.1) [bX12 y a0 res.2] 0 0 := by
  unfold m_X12_after at hf
  refine ci_of (cc := cX12_after) (maxL := 4) (by decide) rfl rfl (Nat.le_of_ble_eq_true rfl) ?_
  intro p e s m below meth c Q A F hret
  refine a_lv (lv' := [(0, .ref (a0 0)), (1, .ref (ek.1 s1)), (2, .int x2), (3, .int x3)]) rfl ?_
  refine a_aloadn (pc := 0) (j := 0) F dX12_after_0 rfl rfl ?_
  obtain ⟨t1, ht1, hf⟩ := bd_some hf
  refine a_callVv (pc := 1) (bs' := [bX12 y a0 t1]) (kb := 0) (j := 0) F [0] (c_X12_letters l D y ek n a0 _ _ ht1) (cwV 0 F.1.2.2.2.2 (gV q6_177 q6_179 qs_30 q1_11 q6_180) rfl rfl rfl (by decide +kernel) ⟨Nat.le_of_ble_eq_true rfl, Nat.le_of_ble_eq_true rfl⟩) rfl rfl rfl rfl (by decide) rfl rfl rfl rfl rfl rfl (Nat.le_of_ble_eq_true rfl) ⟨Nat.zero_le _, Nat.zero_le _⟩ dX12_after_1 ?_
  refine a_aloadn (pc := 4) (j := 0) F dX12_after_4 rfl rfl ?_
  refine a_aloadn (pc := 5) (j := 1) F dX12_after_5 rfl rfl ?_
  obtain ⟨t2, ht2, hf⟩ := bd_some hf
  refine a_callV (pc := 6) (bs' := [bX12 y a0 t1]) (kb := 0) (j := 0) F [0] (c_X12_isWord l D y ek n a0 _ _ _ ht2) (cwV 1 F.1.2.2.2.2 (gV q6_186 q6_188 qs_32 q1_11 q6_189) rfl rfl rfl (by decide +kernel) ⟨Nat.le_of_ble_eq_true rfl, Nat.le_of_ble_eq_true rfl⟩) rfl rfl rfl rfl (by decide) rfl rfl rfl rfl rfl rfl (Nat.le_of_ble_eq_true rfl) ⟨Nat.zero_le _, Nat.zero_le _⟩ dX12_after_6 ?_
  refine a_if_eq (pc := 9) (tgt := 21) F dX12_after_9 (by decide) (fun h => ?_) (fun h => ?_)
  · replace hf := it_pos h hf
    refine a_iconst (pc := 21) F dX12_after_21 kc_m1 ?_
    obtain rfl := Option.some.inj hf
    exact hret _ _ _ _ (Nat.zero_le _) (Nat.zero_le _) rfl dX12_after_22
  · replace hf := it_neg h hf
    refine a_aloadn (pc := 12) (j := 0) F dX12_after_12 rfl rfl ?_
    refine a_iloadn (pc := 13) (j := 2) F dX12_after_13 rfl rfl ?_
    refine a_iloadn (pc := 14) (j := 3) F dX12_after_14 rfl rfl ?_
    obtain ⟨t3, ht3, hf⟩ := bd_some hf
    refine a_callV (pc := 15) (bs' := [bX12 y a0 t3.2]) (kb := 0) (j := 0) F [0] (c_X12_number l D y ek n a0 _ _ _ _ ht3) (cwV 2 F.1.2.2.2.2 (gV q6_200 q6_202 qs_35 q1_11 q6_203) rfl rfl rfl (by decide +kernel) ⟨Nat.le_of_ble_eq_true rfl, Nat.le_of_ble_eq_true rfl⟩) rfl rfl rfl rfl (by decide) rfl rfl rfl rfl rfl rfl (Nat.le_of_ble_eq_true rfl) ⟨Nat.zero_le _, Nat.zero_le _⟩ dX12_after_15 ?_
    refine a_goto (pc := 18) (tgt := 22) F dX12_after_18 (by decide) ?_
    obtain rfl := Option.some.inj hf
    exact hret _ _ _ _ (Nat.zero_le _) (Nat.zero_le _) rfl dX12_after_22

abbrev wX12_fault : List Cond := Cond.code yX12_fault cX12_fault 1 (some .int) :: WALL
def m_X12_fault (n : Nat) (v0 : St) : Option (Int32 × St) :=
nm (su v0 0 0 0) (fun u1 =>
some ((u1 14 0), u1))
set_option maxHeartbeats 4000000 in
set_option maxRecDepth 100000 in
theorem c_X12_fault (l : Launch) (D : va_G) (y : Nat → ClassId) (ek : EK) (n : Nat) (a0 : Nat → Nat) (v0 : St) (res : Int32 × St) (hf : m_X12_fault n v0 = some res) : CI l yX12_fault wX12_fault { frames := 0, cells := 0, slots := 0, locals := 0 } D y ek [.ref (a0 0)] [bX12 y a0 v0] (res.1) [bX12 y a0 res.2] 0 0 := by
  unfold m_X12_fault at hf
  refine ci_of (cc := cX12_fault) (maxL := 1) (by decide) rfl rfl (Nat.le_of_ble_eq_true rfl) ?_
  intro p e s m below meth c Q A F hret
  refine a_lv (lv' := [(0, .ref (a0 0))]) rfl ?_
  refine a_aloadn (pc := 0) (j := 0) F dX12_fault_0 rfl rfl ?_
  refine a_iconst (pc := 1) F dX12_fault_1 kc_0 ?_
  obtain ⟨u1, eu1, hf⟩ := nm_some hf
  refine a_put (pc := 2) (kb := 0) (j := 0) (f := 0) (ty := .int) (bs' := [bX12 y a0 u1]) F iW_X12 rfl rfl rfl (by decide) (tl q6_68) (fun _ h => h) tyX12 tyX12_ok nmX12 rfl rfl rfl rfl (Nat.le_of_ble_eq_true rfl) (by rw [eu1]; rfl) dX12_fault_2 ?_
  refine a_aloadn (pc := 5) (j := 0) F dX12_fault_5 rfl rfl ?_
  refine a_get (pc := 6) (kb := 0) (j := 0) (f := 14) F iW_X12 rfl rfl rfl (by decide) (tl q6_82) (fun _ h => h) rfl dX12_fault_6 ?_
  obtain rfl := Option.some.inj hf
  exact hret _ _ _ _ (Nat.zero_le _) (Nat.zero_le _) rfl dX12_fault_9

abbrev wX12_uses : List Cond := Cond.code yX12_uses cX12_uses 1 none :: WALL
def m_X12_uses (n : Nat) (v0 : St) : Option (St) :=
nm (su v0 0 0 0) (fun u1 =>
nm (su u1 11 0 (u1 9 0)) (fun u2 =>
nm (su u2 9 0 0) (fun u3 =>
nm (su u3 10 0 0) (fun u4 =>
some u4))))
set_option maxHeartbeats 4000000 in
set_option maxRecDepth 100000 in
theorem c_X12_uses (l : Launch) (D : va_G) (y : Nat → ClassId) (ek : EK) (n : Nat) (a0 : Nat → Nat) (v0 : St) (res : St) (hf : m_X12_uses n v0 = some res) : CV l yX12_uses wX12_uses { frames := 0, cells := 0, slots := 0, locals := 0 } D y ek [.ref (a0 0)] [bX12 y a0 v0] [bX12 y a0 res] 0 0 := by
  unfold m_X12_uses at hf
  refine cv_of (cc := cX12_uses) (maxL := 1) (by decide) rfl rfl (Nat.le_of_ble_eq_true rfl) ?_
  intro p e s m below meth c Q A F hret
  refine a_lv (lv' := [(0, .ref (a0 0))]) rfl ?_
  refine a_aloadn (pc := 0) (j := 0) F dX12_uses_0 rfl rfl ?_
  refine a_iconst (pc := 1) F dX12_uses_1 kc_0 ?_
  obtain ⟨u1, eu1, hf⟩ := nm_some hf
  refine a_put (pc := 2) (kb := 0) (j := 0) (f := 0) (ty := .int) (bs' := [bX12 y a0 u1]) F iW_X12 rfl rfl rfl (by decide) (tl q6_68) (fun _ h => h) tyX12 tyX12_ok nmX12 rfl rfl rfl rfl (Nat.le_of_ble_eq_true rfl) (by rw [eu1]; rfl) dX12_uses_2 ?_
  refine a_aloadn (pc := 5) (j := 0) F dX12_uses_5 rfl rfl ?_
  refine a_aloadn (pc := 6) (j := 0) F dX12_uses_6 rfl rfl ?_
  refine a_get (pc := 7) (kb := 0) (j := 0) (f := 9) F iW_X12 rfl rfl rfl (by decide) (tl q6_77) (fun _ h => h) rfl dX12_uses_7 ?_
  obtain ⟨u2, eu2, hf⟩ := nm_some hf
  refine a_put (pc := 10) (kb := 0) (j := 0) (f := 11) (ty := .int) (bs' := [bX12 y a0 u2]) F iW_X12 rfl rfl rfl (by decide) (tl q6_79) (fun _ h => h) tyX12 tyX12_ok nmX12 rfl rfl rfl rfl (Nat.le_of_ble_eq_true rfl) (by rw [eu2]; rfl) dX12_uses_10 ?_
  refine a_aloadn (pc := 13) (j := 0) F dX12_uses_13 rfl rfl ?_
  refine a_iconst (pc := 14) F dX12_uses_14 kc_0 ?_
  obtain ⟨u3, eu3, hf⟩ := nm_some hf
  refine a_put (pc := 15) (kb := 0) (j := 0) (f := 9) (ty := .int) (bs' := [bX12 y a0 u3]) F iW_X12 rfl rfl rfl (by decide) (tl q6_77) (fun _ h => h) tyX12 tyX12_ok nmX12 rfl rfl rfl rfl (Nat.le_of_ble_eq_true rfl) (by rw [eu3]; rfl) dX12_uses_15 ?_
  refine a_aloadn (pc := 18) (j := 0) F dX12_uses_18 rfl rfl ?_
  refine a_iconst (pc := 19) F dX12_uses_19 kc_0 ?_
  obtain ⟨u4, eu4, hf⟩ := nm_some hf
  refine a_put (pc := 20) (kb := 0) (j := 0) (f := 10) (ty := .int) (bs' := [bX12 y a0 u4]) F iW_X12 rfl rfl rfl (by decide) (tl q6_78) (fun _ h => h) tyX12 tyX12_ok nmX12 rfl rfl rfl rfl (Nat.le_of_ble_eq_true rfl) (by rw [eu4]; rfl) dX12_uses_20 ?_
  obtain rfl := Option.some.inj hf
  exact hret _ _ _ _ (Nat.zero_le _) (Nat.zero_le _) dX12_uses_23
