abbrev wX9_skip : List Cond := Cond.code yX9_skip cX9_skip 2 (some .boolean) :: WALL
def m_X9_skip_X4 (n : Nat) (v0 : St) (v1 : St) (v2 : St) (x1 : Int32) : Option (Int32 × St) :=
(if (v1 3 0) ≤ (v0 2 0) then
some (0, v0)
else
(if ix (v0 2 0) 401 then (if (v1 0 ((v0 2 0)).toNatClampNeg) = x1 then
nm (su v0 2 0 ((v0 2 0) + 1)) (fun u2 =>
some (1, u2))
else
some (0, v0)) else none))
set_option maxHeartbeats 4000000 in
set_option maxRecDepth 100000 in
theorem c_X9_skip_X4 (l : Launch) (D : va_G) (y : Nat → ClassId) (ek : EK) (n : Nat) (a0 : Nat → Nat) (a1 : Nat → Nat) (a2 : Nat → Nat) (v0 : St) (v1 : St) (v2 : St) (x1 : Int32) (res : Int32 × St) (hf : m_X9_skip_X4 n v0 v1 v2 x1 = some res) : CI l yX9_skip wX9_skip { frames := 0, cells := 0, slots := 0, locals := 0 } D y ek [.ref (a0 0), .int x1] [bX4 y a0 (a1 0) (a2 0) v0, bX10 y a1 v1, bX3 y a2 v2] (res.1) [bX4 y a0 (a1 0) (a2 0) res.2, bX10 y a1 v1, bX3 y a2 v2] 0 0 := by
  unfold m_X9_skip_X4 at hf
  refine ci_of (cc := cX9_skip) (maxL := 2) (by decide) rfl rfl (Nat.le_of_ble_eq_true rfl) ?_
  intro p e s m below meth c Q A F hret
  refine a_lv (lv' := [(0, .ref (a0 0)), (1, .int x1)]) rfl ?_
  refine a_aloadn (pc := 0) (j := 0) F dX9_skip_0 rfl rfl ?_
  refine a_get (pc := 1) (kb := 0) (j := 0) (f := 2) F iW_X4 rfl rfl rfl (by decide) (tl q1_222) (fun _ h => h) rfl dX9_skip_1 ?_
  refine a_aloadn (pc := 4) (j := 0) F dX9_skip_4 rfl rfl ?_
  refine a_get (pc := 5) (kb := 0) (j := 0) (f := 0) F iW_X4 rfl rfl rfl (by decide) (tl q1_216) (fun _ h => h) rfl dX9_skip_5 ?_
  refine a_getN (pc := 8) (kb := 1) (j := 0) (f := 3) F iW_X10 rfl rfl rfl (by decide) F.2.2.2.2.2.2.2.2.2.2.1 (fun _ h => h) rfl dX9_skip_8 ?_
  refine a_icmp_ge (pc := 11) (tgt := 30) F dX9_skip_11 (by decide) (fun h => ?_) (fun h => ?_)
  · replace hf := it_pos h hf
    refine a_iconst (pc := 30) F dX9_skip_30 kc_0 ?_
    obtain rfl := Option.some.inj hf
    exact hret _ _ _ _ (Nat.zero_le _) (Nat.zero_le _) (z_nar (Or.inl rfl)) dX9_skip_31
  · replace hf := it_neg h hf
    refine a_aloadn (pc := 14) (j := 0) F dX9_skip_14 rfl rfl ?_
    refine a_get (pc := 15) (kb := 0) (j := 0) (f := 0) F iW_X4 rfl rfl rfl (by decide) (tl q1_216) (fun _ h => h) rfl dX9_skip_15 ?_
    refine a_getN (pc := 18) (kb := 1) (j := 0) (f := 0) F iW_X10 rfl rfl rfl (by decide) F.2.2.2.2.2.2.2.2.2.1 (fun _ h => h) rfl dX9_skip_18 ?_
    refine a_aloadn (pc := 21) (j := 0) F dX9_skip_21 rfl rfl ?_
    refine a_get (pc := 22) (kb := 0) (j := 0) (f := 2) F iW_X4 rfl rfl rfl (by decide) (tl q1_222) (fun _ h => h) rfl dX9_skip_22 ?_
    obtain ⟨h1, hf⟩ := gd_some hf
    refine a_iald (pc := 25) (kb := 1) (j := 1) F rfl rfl h1 dX9_skip_25 ?_
    refine a_iloadn (pc := 26) (j := 1) F dX9_skip_26 rfl rfl ?_
    refine a_icmp_eq (pc := 27) (tgt := 32) F dX9_skip_27 (by decide) (fun h => ?_) (fun h => ?_)
    · replace hf := it_pos h hf
      refine a_aloadn (pc := 32) (j := 0) F dX9_skip_32 rfl rfl ?_
      refine a_dup (pc := 33) F dX9_skip_33 rfl ?_
      refine a_get (pc := 34) (kb := 0) (j := 0) (f := 2) F iW_X4 rfl rfl rfl (by decide) (tl q1_222) (fun _ h => h) rfl dX9_skip_34 ?_
      refine a_iconst (pc := 37) F dX9_skip_37 kc_1 ?_
      refine a_iadd (pc := 38) F dX9_skip_38 ?_
      obtain ⟨u2, eu2, hf⟩ := nm_some hf
      refine a_put (pc := 39) (kb := 0) (j := 0) (f := 2) (ty := .int) (bs' := [bX4 y a0 (a1 0) (a2 0) u2, bX10 y a1 v1, bX3 y a2 v2]) F iW_X4 rfl rfl rfl (by decide) (tl q1_222) (fun _ h => h) tyX4 tyX4_ok nmX4 rfl rfl rfl rfl (Nat.le_of_ble_eq_true rfl) (by rw [eu2]; rfl) dX9_skip_39 ?_
      refine a_iconst (pc := 42) F dX9_skip_42 kc_1 ?_
      obtain rfl := Option.some.inj hf
      exact hret _ _ _ _ (Nat.zero_le _) (Nat.zero_le _) (z_nar (Or.inr rfl)) dX9_skip_43
    · replace hf := it_neg h hf
      refine a_iconst (pc := 30) F dX9_skip_30 kc_0 ?_
      obtain rfl := Option.some.inj hf
      exact hret _ _ _ _ (Nat.zero_le _) (Nat.zero_le _) (z_nar (Or.inl rfl)) dX9_skip_31

abbrev wX9_number : List Cond := Cond.code yX9_number cX9_number 4 (some .int) :: WALL
def m_X9_number_X4 (n : Nat) (v0 : St) (v1 : St) (v2 : St) (x1 : Int32) (x2 : Int32) : Option (Int32 × St) :=
bd (m_X10_value n v1 (v0 2 0)) (fun t1 =>
bd (m_X10_code n v1 (v0 2 0)) (fun t2 =>
(if t2 = 256 then
(if t1 < x1 then
some ((-1), v0)
else
(if t1 ≤ x2 then
nm (su v0 2 0 ((v0 2 0) + 1)) (fun u3 =>
some (t1, u3))
else
some ((-1), v0)))
else
some ((-1), v0))))
set_option maxHeartbeats 4000000 in
set_option maxRecDepth 100000 in
theorem c_X9_number_X4 (l : Launch) (D : va_G) (y : Nat → ClassId) (ek : EK) (n : Nat) (a0 : Nat → Nat) (a1 : Nat → Nat) (a2 : Nat → Nat) (v0 : St) (v1 : St) (v2 : St) (x1 : Int32) (x2 : Int32) (res : Int32 × St) (hf : m_X9_number_X4 n v0 v1 v2 x1 x2 = some res) : CI l yX9_number wX9_number { frames := 1, cells := 0, slots := 0, locals := 21 } D y ek [.ref (a0 0), .int x1, .int x2] [bX4 y a0 (a1 0) (a2 0) v0, bX10 y a1 v1, bX3 y a2 v2] (res.1) [bX4 y a0 (a1 0) (a2 0) res.2, bX10 y a1 v1, bX3 y a2 v2] 0 0 := by
  unfold m_X9_number_X4 at hf
  refine ci_of (cc := cX9_number) (maxL := 4) (by decide) rfl rfl (Nat.le_of_ble_eq_true rfl) ?_
  intro p e s m below meth c Q A F hret
  refine a_lv (lv' := [(0, .ref (a0 0)), (1, .int x1), (2, .int x2)]) rfl ?_
  refine a_aloadn (pc := 0) (j := 0) F dX9_number_0 rfl rfl ?_
  refine a_get (pc := 1) (kb := 0) (j := 0) (f := 0) F iW_X4 rfl rfl rfl (by decide) (tl q1_216) (fun _ h => h) rfl dX9_number_1 ?_
  refine a_aloadn (pc := 4) (j := 0) F dX9_number_4 rfl rfl ?_
  refine a_get (pc := 5) (kb := 0) (j := 0) (f := 2) F iW_X4 rfl rfl rfl (by decide) (tl q1_222) (fun _ h => h) rfl dX9_number_5 ?_
  obtain ⟨t1, ht1, hf⟩ := bd_some hf
  refine a_callV (pc := 8) (bs' := [bX4 y a0 (a1 0) (a2 0) v0, bX10 y a1 v1, bX3 y a2 v2]) (kb := 1) (j := 0) F [1] (c_X10_value l D y ek n a1 _ _ _ ht1) (cwV 1 F.1.2.2.2.2 (gV q3_212 q3_213 q3_214 q1_2 q3_215) rfl rfl rfl (by decide +kernel) ⟨Nat.le_of_ble_eq_true rfl, Nat.le_of_ble_eq_true rfl⟩) rfl rfl rfl rfl (by decide) rfl rfl rfl rfl rfl rfl (Nat.le_of_ble_eq_true rfl) ⟨Nat.zero_le _, Nat.zero_le _⟩ dX9_number_8 ?_
  refine a_istoren (pc := 11) (lv' := [(0, .ref (a0 0)), (1, .int x1), (2, .int x2), (3, .int t1)]) F [1, 2, 3, 0] dX9_number_11 rfl (by decide) rfl ?_
  refine a_aloadn (pc := 12) (j := 0) F dX9_number_12 rfl rfl ?_
  refine a_get (pc := 13) (kb := 0) (j := 0) (f := 0) F iW_X4 rfl rfl rfl (by decide) (tl q1_216) (fun _ h => h) rfl dX9_number_13 ?_
  refine a_aloadn (pc := 16) (j := 0) F dX9_number_16 rfl rfl ?_
  refine a_get (pc := 17) (kb := 0) (j := 0) (f := 2) F iW_X4 rfl rfl rfl (by decide) (tl q1_222) (fun _ h => h) rfl dX9_number_17 ?_
  obtain ⟨t2, ht2, hf⟩ := bd_some hf
  refine a_callV (pc := 20) (bs' := [bX4 y a0 (a1 0) (a2 0) v0, bX10 y a1 v1, bX3 y a2 v2]) (kb := 1) (j := 0) F [1] (c_X10_code l D y ek n a1 _ _ _ ht2) (cwV 1 F.1.2.2.2.2 (gV q3_191 q3_192 q3_193 q1_2 q3_194) rfl rfl rfl (by decide +kernel) ⟨Nat.le_of_ble_eq_true rfl, Nat.le_of_ble_eq_true rfl⟩) rfl rfl rfl rfl (by decide) rfl rfl rfl rfl rfl rfl (Nat.le_of_ble_eq_true rfl) ⟨Nat.zero_le _, Nat.zero_le _⟩ dX9_number_20 ?_
  refine a_sipush (pc := 23) F dX9_number_23 ks_256 ?_
  refine a_icmp_ne (pc := 26) (tgt := 39) F dX9_number_26 (by decide) (fun h => ?_) (fun h => ?_)
  · replace hf := it_neg h hf
    refine a_iconst (pc := 39) F dX9_number_39 kc_m1 ?_
    obtain rfl := Option.some.inj hf
    exact hret _ _ _ _ (Nat.zero_le _) (Nat.zero_le _) rfl dX9_number_40
  · replace hf := it_pos h hf
    refine a_iloadn (pc := 29) (j := 3) F dX9_number_29 rfl rfl ?_
    refine a_iloadn (pc := 30) (j := 1) F dX9_number_30 rfl rfl ?_
    refine a_icmp_lt (pc := 31) (tgt := 39) F dX9_number_31 (by decide) (fun h => ?_) (fun h => ?_)
    · replace hf := it_pos h hf
      refine a_iconst (pc := 39) F dX9_number_39 kc_m1 ?_
      obtain rfl := Option.some.inj hf
      exact hret _ _ _ _ (Nat.zero_le _) (Nat.zero_le _) rfl dX9_number_40
    · replace hf := it_neg h hf
      refine a_iloadn (pc := 34) (j := 3) F dX9_number_34 rfl rfl ?_
      refine a_iloadn (pc := 35) (j := 2) F dX9_number_35 rfl rfl ?_
      refine a_icmp_le (pc := 36) (tgt := 41) F dX9_number_36 (by decide) (fun h => ?_) (fun h => ?_)
      · replace hf := it_pos h hf
        refine a_aloadn (pc := 41) (j := 0) F dX9_number_41 rfl rfl ?_
        refine a_dup (pc := 42) F dX9_number_42 rfl ?_
        refine a_get (pc := 43) (kb := 0) (j := 0) (f := 2) F iW_X4 rfl rfl rfl (by decide) (tl q1_222) (fun _ h => h) rfl dX9_number_43 ?_
        refine a_iconst (pc := 46) F dX9_number_46 kc_1 ?_
        refine a_iadd (pc := 47) F dX9_number_47 ?_
        obtain ⟨u3, eu3, hf⟩ := nm_some hf
        refine a_put (pc := 48) (kb := 0) (j := 0) (f := 2) (ty := .int) (bs' := [bX4 y a0 (a1 0) (a2 0) u3, bX10 y a1 v1, bX3 y a2 v2]) F iW_X4 rfl rfl rfl (by decide) (tl q1_222) (fun _ h => h) tyX4 tyX4_ok nmX4 rfl rfl rfl rfl (Nat.le_of_ble_eq_true rfl) (by rw [eu3]; rfl) dX9_number_48 ?_
        refine a_iloadn (pc := 51) (j := 3) F dX9_number_51 rfl rfl ?_
        obtain rfl := Option.some.inj hf
        exact hret _ _ _ _ (Nat.zero_le _) (Nat.zero_le _) rfl dX9_number_52
      · replace hf := it_neg h hf
        refine a_iconst (pc := 39) F dX9_number_39 kc_m1 ?_
        obtain rfl := Option.some.inj hf
        exact hret _ _ _ _ (Nat.zero_le _) (Nat.zero_le _) rfl dX9_number_40

abbrev wX4_readPlank : List Cond := Cond.code yX4_readPlank cX4_readPlank 3 (some .boolean) :: WALL
def m_X4_readPlank (n : Nat) (v0 : St) (v1 : St) (v2 : St) : Option (Int32 × St × St) :=
(if (v2 0 0) < 5 then
nm (su v0 2 0 ((v0 2 0) + 1)) (fun u1 =>
bd (m_X9_number_X4 n u1 v1 v2 10 400) (fun t2 =>
(if t2.1 = (-1) then
some (0, t2.2, v2)
else
bd (m_X9_skip_X4 n t2.2 v1 v2 311) (fun t3 =>
bd ((if t3.1 = 0 then
some (0, t3.2)
else
bd (m_X9_number_X4 n t3.2 v1 v2 0 99) (fun t6 =>
some (t6.1, t6.2)))) (fun (t4 : Int32 × St) =>
(if t4.1 = (-1) then
some (0, t4.2, v2)
else
bd (m_X3_addPlank n v2 t2.1 t4.1) (fun t5 =>
some (1, t4.2, t5))))))))
else
some (0, v0, v2))
set_option maxHeartbeats 4000000 in
set_option maxRecDepth 100000 in
theorem c_X4_readPlank (l : Launch) (D : va_G) (y : Nat → ClassId) (ek : EK) (n : Nat) (a0 : Nat → Nat) (a1 : Nat → Nat) (a2 : Nat → Nat) (v0 : St) (v1 : St) (v2 : St) (res : Int32 × St × St) (hf : m_X4_readPlank n v0 v1 v2 = some res) : CI l yX4_readPlank wX4_readPlank { frames := 2, cells := 0, slots := 0, locals := 44 } D y ek [.ref (a0 0)] [bX4 y a0 (a1 0) (a2 0) v0, bX10 y a1 v1, bX3 y a2 v2] (res.1) [bX4 y a0 (a1 0) (a2 0) res.2.1, bX10 y a1 v1, bX3 y a2 res.2.2] 0 0 := by
  unfold m_X4_readPlank at hf
  refine ci_of (cc := cX4_readPlank) (maxL := 3) (by decide) rfl rfl (Nat.le_of_ble_eq_true rfl) ?_
  intro p e s m below meth c Q A F hret
  refine a_lv (lv' := [(0, .ref (a0 0))]) rfl ?_
  refine a_aloadn (pc := 0) (j := 0) F dX4_readPlank_0 rfl rfl ?_
  refine a_get (pc := 1) (kb := 0) (j := 0) (f := 3) F iW_X4 rfl rfl rfl (by decide) (tl q1_215) (fun _ h => h) rfl dX4_readPlank_1 ?_
  refine a_get (pc := 4) (kb := 2) (j := 0) (f := 0) F iW_X3 rfl rfl rfl (by decide) (tl q1_67) (fun _ h => h) rfl dX4_readPlank_4 ?_
  refine a_iconst (pc := 7) F dX4_readPlank_7 kc_5 ?_
  refine a_icmp_lt (pc := 8) (tgt := 13) F dX4_readPlank_8 (by decide) (fun h => ?_) (fun h => ?_)
  · replace hf := it_pos h hf
    refine a_aloadn (pc := 13) (j := 0) F dX4_readPlank_13 rfl rfl ?_
    refine a_dup (pc := 14) F dX4_readPlank_14 rfl ?_
    refine a_get (pc := 15) (kb := 0) (j := 0) (f := 2) F iW_X4 rfl rfl rfl (by decide) (tl q1_223) (u_same (F.1.2.2.2.2 _ (tl q1_224))) rfl dX4_readPlank_15 ?_
    refine a_iconst (pc := 18) F dX4_readPlank_18 kc_1 ?_
    refine a_iadd (pc := 19) F dX4_readPlank_19 ?_
    obtain ⟨u1, eu1, hf⟩ := nm_some hf
    refine a_put (pc := 20) (kb := 0) (j := 0) (f := 2) (ty := .int) (bs' := [bX4 y a0 (a1 0) (a2 0) u1, bX10 y a1 v1, bX3 y a2 v2]) F iW_X4 rfl rfl rfl (by decide) (tl q1_223) (u_same (F.1.2.2.2.2 _ (tl q1_224))) tyX4 tyX4_ok nmX4 rfl rfl rfl rfl (Nat.le_of_ble_eq_true rfl) (by rw [eu1]; rfl) dX4_readPlank_20 ?_
    refine a_aloadn (pc := 23) (j := 0) F dX4_readPlank_23 rfl rfl ?_
    refine a_bipush (pc := 24) F dX4_readPlank_24 kb_10 ?_
    refine a_sipush (pc := 26) F dX4_readPlank_26 ks_400 ?_
    obtain ⟨t2, ht2, hf⟩ := bd_some hf
    refine a_callU (pc := 29) (bs' := [bX4 y a0 (a1 0) (a2 0) t2.2, bX10 y a1 v1, bX3 y a2 v2]) (kb := 0) (j := 0) F [0, 1, 2] (c_X9_number_X4 l D y ek n a0 a1 a2 _ _ _ _ _ _ ht2) (va_cwU 2 F.1.2.2.2.2 (gU q3_206 q3_207 q3_209 q3_210 q1_6 q3_211) rfl rfl rfl rfl (by decide +kernel) ⟨Nat.le_of_ble_eq_true rfl, Nat.le_of_ble_eq_true rfl⟩) rfl rfl rfl rfl (by decide) rfl rfl rfl rfl rfl rfl (Nat.le_of_ble_eq_true rfl) ⟨Nat.zero_le _, Nat.zero_le _⟩ dX4_readPlank_29 ?_
    refine a_istoren (pc := 32) (lv' := [(0, .ref (a0 0)), (1, .int t2.1)]) F [1, 0] dX4_readPlank_32 rfl (by decide) rfl ?_
    refine a_iloadn (pc := 33) (j := 1) F dX4_readPlank_33 rfl rfl ?_
    refine a_iconst (pc := 34) F dX4_readPlank_34 kc_m1 ?_
    refine a_icmp_ne (pc := 35) (tgt := 40) F dX4_readPlank_35 (by decide) (fun h => ?_) (fun h => ?_)
    · replace hf := it_neg h hf
      refine a_iconst (pc := 40) F dX4_readPlank_40 kc_0 ?_
      refine a_istoren (pc := 41) (lv' := [(0, .ref (a0 0)), (1, .int t2.1), (2, .int 0)]) F [1, 2, 0] dX4_readPlank_41 rfl (by decide) rfl ?_
      refine a_aloadn (pc := 42) (j := 0) F dX4_readPlank_42 rfl rfl ?_
      refine a_sipush (pc := 43) F dX4_readPlank_43 ks_311 ?_
      obtain ⟨t3, ht3, hf⟩ := bd_some hf
      refine a_callU (pc := 46) (bs' := [bX4 y a0 (a1 0) (a2 0) t3.2, bX10 y a1 v1, bX3 y a2 v2]) (kb := 0) (j := 0) F [0, 1, 2] (c_X9_skip_X4 l D y ek n a0 a1 a2 _ _ _ _ _ ht3) (va_cwU 1 F.1.2.2.2.2 (gU q3_216 q3_217 q3_219 q3_220 q1_6 q3_221) rfl rfl rfl rfl (by decide +kernel) ⟨Nat.le_of_ble_eq_true rfl, Nat.le_of_ble_eq_true rfl⟩) rfl rfl rfl rfl (by decide) rfl rfl rfl rfl rfl rfl (Nat.le_of_ble_eq_true rfl) ⟨Nat.zero_le _, Nat.zero_le _⟩ dX4_readPlank_46 ?_
      refine a_join 60 (fun (t4 : Int32 × St) => [(0, .ref (a0 0)), (1, .int t2.1), (2, .int t4.1)]) (fun (t4 : Int32 × St) => []) (fun (t4 : Int32 × St) => [bX4 y a0 (a1 0) (a2 0) t4.2, bX10 y a1 v1, bX3 y a2 v2]) hf (fun t4 hf => ?_) (fun t4 hf J4 => ?_)
      · try dsimp only at hf ⊢
        refine a_iloadn (pc := 60) (j := 2) F dX4_readPlank_60 rfl rfl ?_
        refine a_iconst (pc := 61) F dX4_readPlank_61 kc_m1 ?_
        refine a_icmp_ne (pc := 62) (tgt := 67) F dX4_readPlank_62 (by decide) (fun h => ?_) (fun h => ?_)
        · replace hf := it_neg h hf
          refine a_aloadn (pc := 67) (j := 0) F dX4_readPlank_67 rfl rfl ?_
          refine a_get (pc := 68) (kb := 0) (j := 0) (f := 3) F iW_X4 rfl rfl rfl (by decide) (tl q1_215) (fun _ h => h) rfl dX4_readPlank_68 ?_
          refine a_iloadn (pc := 71) (j := 1) F dX4_readPlank_71 rfl rfl ?_
          refine a_iloadn (pc := 72) (j := 2) F dX4_readPlank_72 rfl rfl ?_
          obtain ⟨t5, ht5, hf⟩ := bd_some hf
          refine a_callVv (pc := 73) (bs' := [bX4 y a0 (a1 0) (a2 0) t4.2, bX10 y a1 v1, bX3 y a2 t5]) (kb := 2) (j := 0) F [2] (c_X3_addPlank l D y ek n a2 _ _ _ _ ht5) (cwV 2 F.1.2.2.2.2 (gV q3_222 q3_223 q3_224 q1_3 q3_225) rfl rfl rfl (by decide +kernel) ⟨Nat.le_of_ble_eq_true rfl, Nat.le_of_ble_eq_true rfl⟩) rfl rfl rfl rfl (by decide) rfl rfl rfl rfl rfl rfl (Nat.le_of_ble_eq_true rfl) ⟨Nat.zero_le _, Nat.zero_le _⟩ dX4_readPlank_73 ?_
          refine a_iconst (pc := 76) F dX4_readPlank_76 kc_1 ?_
          obtain rfl := Option.some.inj hf
          exact hret _ _ _ _ (Nat.zero_le _) (Nat.zero_le _) (z_nar (Or.inr rfl)) dX4_readPlank_77
        · replace hf := it_pos h hf
          refine a_iconst (pc := 65) F dX4_readPlank_65 kc_0 ?_
          obtain rfl := Option.some.inj hf
          exact hret _ _ _ _ (Nat.zero_le _) (Nat.zero_le _) (z_nar (Or.inl rfl)) dX4_readPlank_66
      · refine a_if_eq (pc := 49) (tgt := 60) F dX4_readPlank_49 (by decide) (fun h => ?_) (fun h => ?_)
        · replace hf := it_pos h hf
          obtain rfl := Option.some.inj hf
          exact J4
        · replace hf := it_neg h hf
          refine a_aloadn (pc := 52) (j := 0) F dX4_readPlank_52 rfl rfl ?_
          refine a_iconst (pc := 53) F dX4_readPlank_53 kc_0 ?_
          refine a_bipush (pc := 54) F dX4_readPlank_54 kb_99 ?_
          obtain ⟨t6, ht6, hf⟩ := bd_some hf
          refine a_callU (pc := 56) (bs' := [bX4 y a0 (a1 0) (a2 0) t6.2, bX10 y a1 v1, bX3 y a2 v2]) (kb := 0) (j := 0) F [0, 1, 2] (c_X9_number_X4 l D y ek n a0 a1 a2 _ _ _ _ _ _ ht6) (va_cwU 2 F.1.2.2.2.2 (gU q3_206 q3_207 q3_209 q3_210 q1_6 q3_211) rfl rfl rfl rfl (by decide +kernel) ⟨Nat.le_of_ble_eq_true rfl, Nat.le_of_ble_eq_true rfl⟩) rfl rfl rfl rfl (by decide) rfl rfl rfl rfl rfl rfl (Nat.le_of_ble_eq_true rfl) ⟨Nat.zero_le _, Nat.zero_le _⟩ dX4_readPlank_56 ?_
          refine a_istoren (pc := 59) (lv' := [(0, .ref (a0 0)), (1, .int t2.1), (2, .int t6.1)]) F [1, 2, 0] dX4_readPlank_59 rfl (by decide) rfl ?_
          obtain rfl := Option.some.inj hf
          exact J4
    · replace hf := it_pos h hf
      refine a_iconst (pc := 38) F dX4_readPlank_38 kc_0 ?_
      obtain rfl := Option.some.inj hf
      exact hret _ _ _ _ (Nat.zero_le _) (Nat.zero_le _) (z_nar (Or.inl rfl)) dX4_readPlank_39
  · replace hf := it_neg h hf
    refine a_iconst (pc := 11) F dX4_readPlank_11 kc_0 ?_
    obtain rfl := Option.some.inj hf
    exact hret _ _ _ _ (Nat.zero_le _) (Nat.zero_le _) (z_nar (Or.inl rfl)) dX4_readPlank_12

abbrev wX4_readThing : List Cond := Cond.code yX4_readThing cX4_readThing 4 (some .boolean) :: WALL
def m_X4_readThing (n : Nat) (v0 : St) (v1 : St) (v2 : St) : Option (Int32 × St × St) :=
(if (v2 1 0) < 10 then
nm (su v0 2 0 ((v0 2 0) + 1)) (fun u1 =>
bd (m_X9_number_X4 n u1 v1 v2 1 60) (fun t2 =>
(if t2.1 = (-1) then
some (0, t2.2, v2)
else
bd (m_X9_skip_X4 n t2.2 v1 v2 309) (fun t3 =>
(if t3.1 = 0 then
some (0, t3.2, v2)
else
bd (m_X9_number_X4 n t3.2 v1 v2 0 99) (fun t4 =>
(if t4.1 = (-1) then
some (0, t4.2, v2)
else
bd (m_X9_skip_X4 n t4.2 v1 v2 310) (fun t5 =>
(if t5.1 = 0 then
some (0, t5.2, v2)
else
bd (m_X3_houses n v2) (fun t6 =>
bd (m_X9_number_X4 n t5.2 v1 v2 0 (t6 - 1)) (fun t7 =>
(if t7.1 = (-1) then
some (0, t7.2, v2)
else
bd (m_X3_addThing n v2 t2.1 t4.1 t7.1) (fun t8 =>
some (1, t7.2, t8))))))))))))))
else
some (0, v0, v2))
set_option maxHeartbeats 4000000 in
set_option maxRecDepth 100000 in
theorem c_X4_readThing (l : Launch) (D : va_G) (y : Nat → ClassId) (ek : EK) (n : Nat) (a0 : Nat → Nat) (a1 : Nat → Nat) (a2 : Nat → Nat) (v0 : St) (v1 : St) (v2 : St) (res : Int32 × St × St) (hf : m_X4_readThing n v0 v1 v2 = some res) : CI l yX4_readThing wX4_readThing { frames := 2, cells := 0, slots := 0, locals := 44 } D y ek [.ref (a0 0)] [bX4 y a0 (a1 0) (a2 0) v0, bX10 y a1 v1, bX3 y a2 v2] (res.1) [bX4 y a0 (a1 0) (a2 0) res.2.1, bX10 y a1 v1, bX3 y a2 res.2.2] 0 0 := by
  unfold m_X4_readThing at hf
  refine ci_of (cc := cX4_readThing) (maxL := 4) (by decide) rfl rfl (Nat.le_of_ble_eq_true rfl) ?_
  intro p e s m below meth c Q A F hret
  refine a_lv (lv' := [(0, .ref (a0 0))]) rfl ?_
  refine a_aloadn (pc := 0) (j := 0) F dX4_readThing_0 rfl rfl ?_
  refine a_get (pc := 1) (kb := 0) (j := 0) (f := 3) F iW_X4 rfl rfl rfl (by decide) (tl q1_215) (fun _ h => h) rfl dX4_readThing_1 ?_
  refine a_get (pc := 4) (kb := 2) (j := 0) (f := 1) F iW_X3 rfl rfl rfl (by decide) (tl q1_71) (fun _ h => h) rfl dX4_readThing_4 ?_
  refine a_bipush (pc := 7) F dX4_readThing_7 kb_10 ?_
  refine a_icmp_lt (pc := 9) (tgt := 14) F dX4_readThing_9 (by decide) (fun h => ?_) (fun h => ?_)
  · replace hf := it_pos h hf
    refine a_aloadn (pc := 14) (j := 0) F dX4_readThing_14 rfl rfl ?_
    refine a_dup (pc := 15) F dX4_readThing_15 rfl ?_
    refine a_get (pc := 16) (kb := 0) (j := 0) (f := 2) F iW_X4 rfl rfl rfl (by decide) (tl q1_223) (u_same (F.1.2.2.2.2 _ (tl q1_224))) rfl dX4_readThing_16 ?_
    refine a_iconst (pc := 19) F dX4_readThing_19 kc_1 ?_
    refine a_iadd (pc := 20) F dX4_readThing_20 ?_
    obtain ⟨u1, eu1, hf⟩ := nm_some hf
    refine a_put (pc := 21) (kb := 0) (j := 0) (f := 2) (ty := .int) (bs' := [bX4 y a0 (a1 0) (a2 0) u1, bX10 y a1 v1, bX3 y a2 v2]) F iW_X4 rfl rfl rfl (by decide) (tl q1_223) (u_same (F.1.2.2.2.2 _ (tl q1_224))) tyX4 tyX4_ok nmX4 rfl rfl rfl rfl (Nat.le_of_ble_eq_true rfl) (by rw [eu1]; rfl) dX4_readThing_21 ?_
    refine a_aloadn (pc := 24) (j := 0) F dX4_readThing_24 rfl rfl ?_
    refine a_iconst (pc := 25) F dX4_readThing_25 kc_1 ?_
    refine a_bipush (pc := 26) F dX4_readThing_26 kb_60 ?_
    obtain ⟨t2, ht2, hf⟩ := bd_some hf
    refine a_callU (pc := 28) (bs' := [bX4 y a0 (a1 0) (a2 0) t2.2, bX10 y a1 v1, bX3 y a2 v2]) (kb := 0) (j := 0) F [0, 1, 2] (c_X9_number_X4 l D y ek n a0 a1 a2 _ _ _ _ _ _ ht2) (va_cwU 2 F.1.2.2.2.2 (gU q3_206 q3_207 q3_209 q3_210 q1_6 q3_211) rfl rfl rfl rfl (by decide +kernel) ⟨Nat.le_of_ble_eq_true rfl, Nat.le_of_ble_eq_true rfl⟩) rfl rfl rfl rfl (by decide) rfl rfl rfl rfl rfl rfl (Nat.le_of_ble_eq_true rfl) ⟨Nat.zero_le _, Nat.zero_le _⟩ dX4_readThing_28 ?_
    refine a_istoren (pc := 31) (lv' := [(0, .ref (a0 0)), (1, .int t2.1)]) F [1, 0] dX4_readThing_31 rfl (by decide) rfl ?_
    refine a_iloadn (pc := 32) (j := 1) F dX4_readThing_32 rfl rfl ?_
    refine a_iconst (pc := 33) F dX4_readThing_33 kc_m1 ?_
    refine a_icmp_eq (pc := 34) (tgt := 47) F dX4_readThing_34 (by decide) (fun h => ?_) (fun h => ?_)
    · replace hf := it_pos h hf
      refine a_iconst (pc := 47) F dX4_readThing_47 kc_0 ?_
      obtain rfl := Option.some.inj hf
      exact hret _ _ _ _ (Nat.zero_le _) (Nat.zero_le _) (z_nar (Or.inl rfl)) dX4_readThing_48
    · replace hf := it_neg h hf
      refine a_aloadn (pc := 37) (j := 0) F dX4_readThing_37 rfl rfl ?_
      refine a_sipush (pc := 38) F dX4_readThing_38 ks_309 ?_
      obtain ⟨t3, ht3, hf⟩ := bd_some hf
      refine a_callU (pc := 41) (bs' := [bX4 y a0 (a1 0) (a2 0) t3.2, bX10 y a1 v1, bX3 y a2 v2]) (kb := 0) (j := 0) F [0, 1, 2] (c_X9_skip_X4 l D y ek n a0 a1 a2 _ _ _ _ _ ht3) (va_cwU 1 F.1.2.2.2.2 (gU q3_216 q3_217 q3_219 q3_220 q1_6 q3_221) rfl rfl rfl rfl (by decide +kernel) ⟨Nat.le_of_ble_eq_true rfl, Nat.le_of_ble_eq_true rfl⟩) rfl rfl rfl rfl (by decide) rfl rfl rfl rfl rfl rfl (Nat.le_of_ble_eq_true rfl) ⟨Nat.zero_le _, Nat.zero_le _⟩ dX4_readThing_41 ?_
      refine a_if_ne (pc := 44) (tgt := 49) F dX4_readThing_44 (by decide) (fun h => ?_) (fun h => ?_)
      · replace hf := it_neg h hf
        refine a_aloadn (pc := 49) (j := 0) F dX4_readThing_49 rfl rfl ?_
        refine a_iconst (pc := 50) F dX4_readThing_50 kc_0 ?_
        refine a_bipush (pc := 51) F dX4_readThing_51 kb_99 ?_
        obtain ⟨t4, ht4, hf⟩ := bd_some hf
        refine a_callU (pc := 53) (bs' := [bX4 y a0 (a1 0) (a2 0) t4.2, bX10 y a1 v1, bX3 y a2 v2]) (kb := 0) (j := 0) F [0, 1, 2] (c_X9_number_X4 l D y ek n a0 a1 a2 _ _ _ _ _ _ ht4) (va_cwU 2 F.1.2.2.2.2 (gU q3_206 q3_207 q3_209 q3_210 q1_6 q3_211) rfl rfl rfl rfl (by decide +kernel) ⟨Nat.le_of_ble_eq_true rfl, Nat.le_of_ble_eq_true rfl⟩) rfl rfl rfl rfl (by decide) rfl rfl rfl rfl rfl rfl (Nat.le_of_ble_eq_true rfl) ⟨Nat.zero_le _, Nat.zero_le _⟩ dX4_readThing_53 ?_
        refine a_istoren (pc := 56) (lv' := [(0, .ref (a0 0)), (1, .int t2.1), (2, .int t4.1)]) F [1, 2, 0] dX4_readThing_56 rfl (by decide) rfl ?_
        refine a_iloadn (pc := 57) (j := 2) F dX4_readThing_57 rfl rfl ?_
        refine a_iconst (pc := 58) F dX4_readThing_58 kc_m1 ?_
        refine a_icmp_eq (pc := 59) (tgt := 72) F dX4_readThing_59 (by decide) (fun h => ?_) (fun h => ?_)
        · replace hf := it_pos h hf
          refine a_iconst (pc := 72) F dX4_readThing_72 kc_0 ?_
          obtain rfl := Option.some.inj hf
          exact hret _ _ _ _ (Nat.zero_le _) (Nat.zero_le _) (z_nar (Or.inl rfl)) dX4_readThing_73
        · replace hf := it_neg h hf
          refine a_aloadn (pc := 62) (j := 0) F dX4_readThing_62 rfl rfl ?_
          refine a_sipush (pc := 63) F dX4_readThing_63 ks_310 ?_
          obtain ⟨t5, ht5, hf⟩ := bd_some hf
          refine a_callU (pc := 66) (bs' := [bX4 y a0 (a1 0) (a2 0) t5.2, bX10 y a1 v1, bX3 y a2 v2]) (kb := 0) (j := 0) F [0, 1, 2] (c_X9_skip_X4 l D y ek n a0 a1 a2 _ _ _ _ _ ht5) (va_cwU 1 F.1.2.2.2.2 (gU q3_216 q3_217 q3_219 q3_220 q1_6 q3_221) rfl rfl rfl rfl (by decide +kernel) ⟨Nat.le_of_ble_eq_true rfl, Nat.le_of_ble_eq_true rfl⟩) rfl rfl rfl rfl (by decide) rfl rfl rfl rfl rfl rfl (Nat.le_of_ble_eq_true rfl) ⟨Nat.zero_le _, Nat.zero_le _⟩ dX4_readThing_66 ?_
          refine a_if_ne (pc := 69) (tgt := 74) F dX4_readThing_69 (by decide) (fun h => ?_) (fun h => ?_)
          · replace hf := it_neg h hf
            refine a_aloadn (pc := 74) (j := 0) F dX4_readThing_74 rfl rfl ?_
            refine a_iconst (pc := 75) F dX4_readThing_75 kc_0 ?_
            refine a_aloadn (pc := 76) (j := 0) F dX4_readThing_76 rfl rfl ?_
            refine a_get (pc := 77) (kb := 0) (j := 0) (f := 3) F iW_X4 rfl rfl rfl (by decide) (tl q1_215) (fun _ h => h) rfl dX4_readThing_77 ?_
            obtain ⟨t6, ht6, hf⟩ := bd_some hf
            refine a_callV (pc := 80) (bs' := [bX4 y a0 (a1 0) (a2 0) t5.2, bX10 y a1 v1, bX3 y a2 v2]) (kb := 2) (j := 0) F [2] (c_X3_houses l D y ek n a2 _ _ ht6) (cwV 0 F.1.2.2.2.2 (gV q3_230 q2_158 q2_159 q1_3 q2_160) rfl rfl rfl (by decide +kernel) ⟨Nat.le_of_ble_eq_true rfl, Nat.le_of_ble_eq_true rfl⟩) rfl rfl rfl rfl (by decide) rfl rfl rfl rfl rfl rfl (Nat.le_of_ble_eq_true rfl) ⟨Nat.zero_le _, Nat.zero_le _⟩ dX4_readThing_80 ?_
            refine a_iconst (pc := 83) F dX4_readThing_83 kc_1 ?_
            refine a_isub (pc := 84) F dX4_readThing_84 ?_
            obtain ⟨t7, ht7, hf⟩ := bd_some hf
            refine a_callU (pc := 85) (bs' := [bX4 y a0 (a1 0) (a2 0) t7.2, bX10 y a1 v1, bX3 y a2 v2]) (kb := 0) (j := 0) F [0, 1, 2] (c_X9_number_X4 l D y ek n a0 a1 a2 _ _ _ _ _ _ ht7) (va_cwU 2 F.1.2.2.2.2 (gU q3_206 q3_207 q3_209 q3_210 q1_6 q3_211) rfl rfl rfl rfl (by decide +kernel) ⟨Nat.le_of_ble_eq_true rfl, Nat.le_of_ble_eq_true rfl⟩) rfl rfl rfl rfl (by decide) rfl rfl rfl rfl rfl rfl (Nat.le_of_ble_eq_true rfl) ⟨Nat.zero_le _, Nat.zero_le _⟩ dX4_readThing_85 ?_
            refine a_istoren (pc := 88) (lv' := [(0, .ref (a0 0)), (1, .int t2.1), (2, .int t4.1), (3, .int t7.1)]) F [1, 2, 3, 0] dX4_readThing_88 rfl (by decide) rfl ?_
            refine a_iloadn (pc := 89) (j := 3) F dX4_readThing_89 rfl rfl ?_
            refine a_iconst (pc := 90) F dX4_readThing_90 kc_m1 ?_
            refine a_icmp_ne (pc := 91) (tgt := 96) F dX4_readThing_91 (by decide) (fun h => ?_) (fun h => ?_)
            · replace hf := it_neg h hf
              refine a_aloadn (pc := 96) (j := 0) F dX4_readThing_96 rfl rfl ?_
              refine a_get (pc := 97) (kb := 0) (j := 0) (f := 3) F iW_X4 rfl rfl rfl (by decide) (tl q1_215) (fun _ h => h) rfl dX4_readThing_97 ?_
              refine a_iloadn (pc := 100) (j := 1) F dX4_readThing_100 rfl rfl ?_
              refine a_iloadn (pc := 101) (j := 2) F dX4_readThing_101 rfl rfl ?_
              refine a_iloadn (pc := 102) (j := 3) F dX4_readThing_102 rfl rfl ?_
              obtain ⟨t8, ht8, hf⟩ := bd_some hf
              refine a_callVv (pc := 103) (bs' := [bX4 y a0 (a1 0) (a2 0) t7.2, bX10 y a1 v1, bX3 y a2 t8]) (kb := 2) (j := 0) F [2] (c_X3_addThing l D y ek n a2 _ _ _ _ _ ht8) (cwV 3 F.1.2.2.2.2 (gV q3_231 q3_232 q3_233 q1_3 q3_234) rfl rfl rfl (by decide +kernel) ⟨Nat.le_of_ble_eq_true rfl, Nat.le_of_ble_eq_true rfl⟩) rfl rfl rfl rfl (by decide) rfl rfl rfl rfl rfl rfl (Nat.le_of_ble_eq_true rfl) ⟨Nat.zero_le _, Nat.zero_le _⟩ dX4_readThing_103 ?_
              refine a_iconst (pc := 106) F dX4_readThing_106 kc_1 ?_
              obtain rfl := Option.some.inj hf
              exact hret _ _ _ _ (Nat.zero_le _) (Nat.zero_le _) (z_nar (Or.inr rfl)) dX4_readThing_107
            · replace hf := it_pos h hf
              refine a_iconst (pc := 94) F dX4_readThing_94 kc_0 ?_
              obtain rfl := Option.some.inj hf
              exact hret _ _ _ _ (Nat.zero_le _) (Nat.zero_le _) (z_nar (Or.inl rfl)) dX4_readThing_95
          · replace hf := it_pos h hf
            refine a_iconst (pc := 72) F dX4_readThing_72 kc_0 ?_
            obtain rfl := Option.some.inj hf
            exact hret _ _ _ _ (Nat.zero_le _) (Nat.zero_le _) (z_nar (Or.inl rfl)) dX4_readThing_73
      · replace hf := it_pos h hf
        refine a_iconst (pc := 47) F dX4_readThing_47 kc_0 ?_
        obtain rfl := Option.some.inj hf
        exact hret _ _ _ _ (Nat.zero_le _) (Nat.zero_le _) (z_nar (Or.inl rfl)) dX4_readThing_48
  · replace hf := it_neg h hf
    refine a_iconst (pc := 12) F dX4_readThing_12 kc_0 ?_
    obtain rfl := Option.some.inj hf
    exact hret _ _ _ _ (Nat.zero_le _) (Nat.zero_le _) (z_nar (Or.inl rfl)) dX4_readThing_13

abbrev wX4_readOfHouse : List Cond := Cond.code yX4_readOfHouse cX4_readOfHouse 4 (some .boolean) :: WALL
def m_X4_readOfHouse (n : Nat) (v0 : St) (v1 : St) (v2 : St) (x1 : Int32) : Option (Int32 × St × St) :=
nm (su v0 2 0 ((v0 2 0) + 1)) (fun u1 =>
bd (m_X3_houses n v2) (fun t2 =>
bd (m_X9_number_X4 n u1 v1 v2 0 (t2 - 1)) (fun t3 =>
(if t3.1 = (-1) then
some (0, t3.2, v2)
else
bd ((if x1 = 301 then
some 999
else
some 9)) (fun (t4 : Int32) =>
bd (m_X9_number_X4 n t3.2 v1 v2 0 t4) (fun t5 =>
(if t5.1 = (-1) then
some (0, t5.2, v2)
else
(if x1 = 301 then
(if ix t3.1 10 then nm (su v2 13 (t3.1).toNatClampNeg t5.1) (fun u9 =>
some (1, t5.2, u9)) else none)
else
(if ix t3.1 10 then nm (su v2 14 (t3.1).toNatClampNeg t5.1) (fun u7 =>
some (1, t5.2, u7)) else none)))))))))
set_option maxHeartbeats 4000000 in
set_option maxRecDepth 100000 in
theorem c_X4_readOfHouse (l : Launch) (D : va_G) (y : Nat → ClassId) (ek : EK) (n : Nat) (a0 : Nat → Nat) (a1 : Nat → Nat) (a2 : Nat → Nat) (v0 : St) (v1 : St) (v2 : St) (x1 : Int32) (res : Int32 × St × St) (hf : m_X4_readOfHouse n v0 v1 v2 x1 = some res) : CI l yX4_readOfHouse wX4_readOfHouse { frames := 2, cells := 0, slots := 0, locals := 44 } D y ek [.ref (a0 0), .int x1] [bX4 y a0 (a1 0) (a2 0) v0, bX10 y a1 v1, bX3 y a2 v2] (res.1) [bX4 y a0 (a1 0) (a2 0) res.2.1, bX10 y a1 v1, bX3 y a2 res.2.2] 0 0 := by
  unfold m_X4_readOfHouse at hf
  refine ci_of (cc := cX4_readOfHouse) (maxL := 4) (by decide) rfl rfl (Nat.le_of_ble_eq_true rfl) ?_
  intro p e s m below meth c Q A F hret
  refine a_lv (lv' := [(0, .ref (a0 0)), (1, .int x1)]) rfl ?_
  refine a_aloadn (pc := 0) (j := 0) F dX4_readOfHouse_0 rfl rfl ?_
  refine a_dup (pc := 1) F dX4_readOfHouse_1 rfl ?_
  refine a_get (pc := 2) (kb := 0) (j := 0) (f := 2) F iW_X4 rfl rfl rfl (by decide) (tl q1_223) (u_same (F.1.2.2.2.2 _ (tl q1_224))) rfl dX4_readOfHouse_2 ?_
  refine a_iconst (pc := 5) F dX4_readOfHouse_5 kc_1 ?_
  refine a_iadd (pc := 6) F dX4_readOfHouse_6 ?_
  obtain ⟨u1, eu1, hf⟩ := nm_some hf
  refine a_put (pc := 7) (kb := 0) (j := 0) (f := 2) (ty := .int) (bs' := [bX4 y a0 (a1 0) (a2 0) u1, bX10 y a1 v1, bX3 y a2 v2]) F iW_X4 rfl rfl rfl (by decide) (tl q1_223) (u_same (F.1.2.2.2.2 _ (tl q1_224))) tyX4 tyX4_ok nmX4 rfl rfl rfl rfl (Nat.le_of_ble_eq_true rfl) (by rw [eu1]; rfl) dX4_readOfHouse_7 ?_
  refine a_aloadn (pc := 10) (j := 0) F dX4_readOfHouse_10 rfl rfl ?_
  refine a_iconst (pc := 11) F dX4_readOfHouse_11 kc_0 ?_
  refine a_aloadn (pc := 12) (j := 0) F dX4_readOfHouse_12 rfl rfl ?_
  refine a_get (pc := 13) (kb := 0) (j := 0) (f := 3) F iW_X4 rfl rfl rfl (by decide) (tl q1_215) (fun _ h => h) rfl dX4_readOfHouse_13 ?_
  obtain ⟨t2, ht2, hf⟩ := bd_some hf
  refine a_callV (pc := 16) (bs' := [bX4 y a0 (a1 0) (a2 0) u1, bX10 y a1 v1, bX3 y a2 v2]) (kb := 2) (j := 0) F [2] (c_X3_houses l D y ek n a2 _ _ ht2) (cwV 0 F.1.2.2.2.2 (gV q3_230 q2_158 q2_159 q1_3 q2_160) rfl rfl rfl (by decide +kernel) ⟨Nat.le_of_ble_eq_true rfl, Nat.le_of_ble_eq_true rfl⟩) rfl rfl rfl rfl (by decide) rfl rfl rfl rfl rfl rfl (Nat.le_of_ble_eq_true rfl) ⟨Nat.zero_le _, Nat.zero_le _⟩ dX4_readOfHouse_16 ?_
  refine a_iconst (pc := 19) F dX4_readOfHouse_19 kc_1 ?_
  refine a_isub (pc := 20) F dX4_readOfHouse_20 ?_
  obtain ⟨t3, ht3, hf⟩ := bd_some hf
  refine a_callU (pc := 21) (bs' := [bX4 y a0 (a1 0) (a2 0) t3.2, bX10 y a1 v1, bX3 y a2 v2]) (kb := 0) (j := 0) F [0, 1, 2] (c_X9_number_X4 l D y ek n a0 a1 a2 _ _ _ _ _ _ ht3) (va_cwU 2 F.1.2.2.2.2 (gU q3_206 q3_207 q3_209 q3_210 q1_6 q3_211) rfl rfl rfl rfl (by decide +kernel) ⟨Nat.le_of_ble_eq_true rfl, Nat.le_of_ble_eq_true rfl⟩) rfl rfl rfl rfl (by decide) rfl rfl rfl rfl rfl rfl (Nat.le_of_ble_eq_true rfl) ⟨Nat.zero_le _, Nat.zero_le _⟩ dX4_readOfHouse_21 ?_
  refine a_istoren (pc := 24) (lv' := [(0, .ref (a0 0)), (1, .int x1), (2, .int t3.1)]) F [1, 2, 0] dX4_readOfHouse_24 rfl (by decide) rfl ?_
  refine a_iloadn (pc := 25) (j := 2) F dX4_readOfHouse_25 rfl rfl ?_
  refine a_iconst (pc := 26) F dX4_readOfHouse_26 kc_m1 ?_
  refine a_icmp_ne (pc := 27) (tgt := 32) F dX4_readOfHouse_27 (by decide) (fun h => ?_) (fun h => ?_)
  · replace hf := it_neg h hf
    refine a_aloadn (pc := 32) (j := 0) F dX4_readOfHouse_32 rfl rfl ?_
    refine a_iconst (pc := 33) F dX4_readOfHouse_33 kc_0 ?_
    refine a_iloadn (pc := 34) (j := 1) F dX4_readOfHouse_34 rfl rfl ?_
    refine a_sipush (pc := 35) F dX4_readOfHouse_35 ks_301 ?_
    refine a_join 49 (fun (t4 : Int32) => [(0, .ref (a0 0)), (1, .int x1), (2, .int t3.1)]) (fun (t4 : Int32) => [.int t4, .int 0, .ref (a0 0)]) (fun (t4 : Int32) => [bX4 y a0 (a1 0) (a2 0) t3.2, bX10 y a1 v1, bX3 y a2 v2]) hf (fun t4 hf => ?_) (fun t4 hf J4 => ?_)
    · try dsimp only at hf ⊢
      obtain ⟨t5, ht5, hf⟩ := bd_some hf
      refine a_callU (pc := 49) (bs' := [bX4 y a0 (a1 0) (a2 0) t5.2, bX10 y a1 v1, bX3 y a2 v2]) (kb := 0) (j := 0) F [0, 1, 2] (c_X9_number_X4 l D y ek n a0 a1 a2 _ _ _ _ _ _ ht5) (va_cwU 2 F.1.2.2.2.2 (gU q3_206 q3_207 q3_209 q3_210 q1_6 q3_211) rfl rfl rfl rfl (by decide +kernel) ⟨Nat.le_of_ble_eq_true rfl, Nat.le_of_ble_eq_true rfl⟩) rfl rfl rfl rfl (by decide) rfl rfl rfl rfl rfl rfl (Nat.le_of_ble_eq_true rfl) ⟨Nat.zero_le _, Nat.zero_le _⟩ dX4_readOfHouse_49 ?_
      refine a_istoren (pc := 52) (lv' := [(0, .ref (a0 0)), (1, .int x1), (2, .int t3.1), (3, .int t5.1)]) F [1, 2, 3, 0] dX4_readOfHouse_52 rfl (by decide) rfl ?_
      refine a_iloadn (pc := 53) (j := 3) F dX4_readOfHouse_53 rfl rfl ?_
      refine a_iconst (pc := 54) F dX4_readOfHouse_54 kc_m1 ?_
      refine a_icmp_ne (pc := 55) (tgt := 60) F dX4_readOfHouse_55 (by decide) (fun h => ?_) (fun h => ?_)
      · replace hf := it_neg h hf
        refine a_iloadn (pc := 60) (j := 1) F dX4_readOfHouse_60 rfl rfl ?_
        refine a_sipush (pc := 61) F dX4_readOfHouse_61 ks_301 ?_
        refine a_icmp_ne (pc := 64) (tgt := 80) F dX4_readOfHouse_64 (by decide) (fun h => ?_) (fun h => ?_)
        · replace hf := it_neg h hf
          refine a_aloadn (pc := 80) (j := 0) F dX4_readOfHouse_80 rfl rfl ?_
          refine a_get (pc := 81) (kb := 0) (j := 0) (f := 3) F iW_X4 rfl rfl rfl (by decide) (tl q1_215) (fun _ h => h) rfl dX4_readOfHouse_81 ?_
          refine a_get (pc := 84) (kb := 2) (j := 0) (f := 14) F iW_X3 rfl rfl rfl (by decide) (tl q1_105) (fun _ h => h) rfl dX4_readOfHouse_84 ?_
          refine a_iloadn (pc := 87) (j := 2) F dX4_readOfHouse_87 rfl rfl ?_
          refine a_iloadn (pc := 88) (j := 3) F dX4_readOfHouse_88 rfl rfl ?_
          obtain ⟨h6, hf⟩ := gd_some hf
          obtain ⟨u7, eu7, hf⟩ := nm_some hf
          refine a_iast (pc := 89) (kb := 2) (j := 6) (bs' := [bX4 y a0 (a1 0) (a2 0) t5.2, bX10 y a1 v1, bX3 y a2 u7]) F rfl rfl h6 (by rw [eu7]; rfl) dX4_readOfHouse_89 ?_
          refine a_iconst (pc := 90) F dX4_readOfHouse_90 kc_1 ?_
          obtain rfl := Option.some.inj hf
          exact hret _ _ _ _ (Nat.zero_le _) (Nat.zero_le _) (z_nar (Or.inr rfl)) dX4_readOfHouse_91
        · replace hf := it_pos h hf
          refine a_aloadn (pc := 67) (j := 0) F dX4_readOfHouse_67 rfl rfl ?_
          refine a_get (pc := 68) (kb := 0) (j := 0) (f := 3) F iW_X4 rfl rfl rfl (by decide) (tl q1_215) (fun _ h => h) rfl dX4_readOfHouse_68 ?_
          refine a_get (pc := 71) (kb := 2) (j := 0) (f := 13) F iW_X3 rfl rfl rfl (by decide) (tl q1_102) (fun _ h => h) rfl dX4_readOfHouse_71 ?_
          refine a_iloadn (pc := 74) (j := 2) F dX4_readOfHouse_74 rfl rfl ?_
          refine a_iloadn (pc := 75) (j := 3) F dX4_readOfHouse_75 rfl rfl ?_
          obtain ⟨h8, hf⟩ := gd_some hf
          obtain ⟨u9, eu9, hf⟩ := nm_some hf
          refine a_iast (pc := 76) (kb := 2) (j := 5) (bs' := [bX4 y a0 (a1 0) (a2 0) t5.2, bX10 y a1 v1, bX3 y a2 u9]) F rfl rfl h8 (by rw [eu9]; rfl) dX4_readOfHouse_76 ?_
          refine a_goto (pc := 77) (tgt := 90) F dX4_readOfHouse_77 (by decide) ?_
          refine a_iconst (pc := 90) F dX4_readOfHouse_90 kc_1 ?_
          obtain rfl := Option.some.inj hf
          exact hret _ _ _ _ (Nat.zero_le _) (Nat.zero_le _) (z_nar (Or.inr rfl)) dX4_readOfHouse_91
      · replace hf := it_pos h hf
        refine a_iconst (pc := 58) F dX4_readOfHouse_58 kc_0 ?_
        obtain rfl := Option.some.inj hf
        exact hret _ _ _ _ (Nat.zero_le _) (Nat.zero_le _) (z_nar (Or.inl rfl)) dX4_readOfHouse_59
    · refine a_icmp_ne (pc := 38) (tgt := 47) F dX4_readOfHouse_38 (by decide) (fun h => ?_) (fun h => ?_)
      · replace hf := it_neg h hf
        refine a_bipush (pc := 47) F dX4_readOfHouse_47 kb_9 ?_
        obtain rfl := Option.some.inj hf
        exact J4
      · replace hf := it_pos h hf
        refine a_sipush (pc := 41) F dX4_readOfHouse_41 ks_999 ?_
        refine a_goto (pc := 44) (tgt := 49) F dX4_readOfHouse_44 (by decide) ?_
        obtain rfl := Option.some.inj hf
        exact J4
  · replace hf := it_pos h hf
    refine a_iconst (pc := 30) F dX4_readOfHouse_30 kc_0 ?_
    obtain rfl := Option.some.inj hf
    exact hret _ _ _ _ (Nat.zero_le _) (Nat.zero_le _) (z_nar (Or.inl rfl)) dX4_readOfHouse_31

abbrev wX4_mostOf : List Cond := Cond.code yX4_mostOf cX4_mostOf 1 (some .int) :: WALL
def m_X4_mostOf (n : Nat) (x0 : Int32) : Option (Int32) :=
(if x0 = 304 then
some 99
else
(if x0 = 305 then
some 40
else
(if x0 = 306 then
some 100
else
(if x0 = 307 then
some 100
else
(if x0 = 308 then
some 99
else
some 100)))))
set_option maxHeartbeats 4000000 in
set_option maxRecDepth 100000 in
theorem c_X4_mostOf (l : Launch) (D : va_G) (y : Nat → ClassId) (ek : EK) (n : Nat) (x0 : Int32) (res : Int32) (hf : m_X4_mostOf n x0 = some res) : CI l yX4_mostOf wX4_mostOf { frames := 0, cells := 0, slots := 0, locals := 0 } D y ek [.int x0] [] (res) [] 0 0 := by
  unfold m_X4_mostOf at hf
  refine ci_of (cc := cX4_mostOf) (maxL := 1) (by decide) rfl rfl (Nat.le_of_ble_eq_true rfl) ?_
  intro p e s m below meth c Q A F hret
  refine a_lv (lv' := [(0, .int x0)]) rfl ?_
  refine a_iloadn (pc := 0) (j := 0) F dX4_mostOf_0 rfl rfl ?_
  by_cases h304 : x0 = 304
  · replace hf := it_pos h304 hf
    refine a_tin (pc := 1) (tgt := 36) (k := 304) F dX4_mostOf_1 (by rw [h304]; decide) (by decide) (by decide) rfl (by decide) ?_
    refine a_bipush (pc := 36) F dX4_mostOf_36 kb_99 ?_
    obtain rfl := Option.some.inj hf
    exact hret _ _ _ _ (Nat.zero_le _) (Nat.zero_le _) rfl dX4_mostOf_38
  replace hf := it_neg h304 hf
  by_cases h305 : x0 = 305
  · replace hf := it_pos h305 hf
    refine a_tin (pc := 1) (tgt := 39) (k := 305) F dX4_mostOf_1 (by rw [h305]; decide) (by decide) (by decide) rfl (by decide) ?_
    refine a_bipush (pc := 39) F dX4_mostOf_39 kb_40 ?_
    obtain rfl := Option.some.inj hf
    exact hret _ _ _ _ (Nat.zero_le _) (Nat.zero_le _) rfl dX4_mostOf_41
  replace hf := it_neg h305 hf
  by_cases h306 : x0 = 306
  · replace hf := it_pos h306 hf
    refine a_tin (pc := 1) (tgt := 45) (k := 306) F dX4_mostOf_1 (by rw [h306]; decide) (by decide) (by decide) rfl (by decide) ?_
    refine a_bipush (pc := 45) F dX4_mostOf_45 kb_100 ?_
    obtain rfl := Option.some.inj hf
    exact hret _ _ _ _ (Nat.zero_le _) (Nat.zero_le _) rfl dX4_mostOf_47
  replace hf := it_neg h306 hf
  by_cases h307 : x0 = 307
  · replace hf := it_pos h307 hf
    refine a_tin (pc := 1) (tgt := 45) (k := 307) F dX4_mostOf_1 (by rw [h307]; decide) (by decide) (by decide) rfl (by decide) ?_
    refine a_bipush (pc := 45) F dX4_mostOf_45 kb_100 ?_
    obtain rfl := Option.some.inj hf
    exact hret _ _ _ _ (Nat.zero_le _) (Nat.zero_le _) rfl dX4_mostOf_47
  replace hf := it_neg h307 hf
  by_cases h308 : x0 = 308
  · replace hf := it_pos h308 hf
    refine a_tin (pc := 1) (tgt := 42) (k := 308) F dX4_mostOf_1 (by rw [h308]; decide) (by decide) (by decide) rfl (by decide) ?_
    refine a_bipush (pc := 42) F dX4_mostOf_42 kb_99 ?_
    obtain rfl := Option.some.inj hf
    exact hret _ _ _ _ (Nat.zero_le _) (Nat.zero_le _) rfl dX4_mostOf_44
  replace hf := it_neg h308 hf
  refine a_tout (pc := 1) (tgt := 45) F dX4_mostOf_1 (by have := sw_ne 304 h304 (by decide); have := sw_ne 305 h305 (by decide); have := sw_ne 306 h306 (by decide); have := sw_ne 307 h307 (by decide); have := sw_ne 308 h308 (by decide); omega) (by decide) ?_
  refine a_bipush (pc := 45) F dX4_mostOf_45 kb_100 ?_
  obtain rfl := Option.some.inj hf
  exact hret _ _ _ _ (Nat.zero_le _) (Nat.zero_le _) rfl dX4_mostOf_47

abbrev wX4_readSetting : List Cond := Cond.code yX4_readSetting cX4_readSetting 3 (some .boolean) :: WALL
def m_X4_readSetting (n : Nat) (v0 : St) (v1 : St) (v2 : St) (x1 : Int32) : Option (Int32 × St × St) :=
nm (su v0 2 0 ((v0 2 0) + 1)) (fun u1 =>
bd ((if x1 = 305 then
some 1
else
some 0)) (fun (t2 : Int32) =>
bd (m_X4_mostOf n x1) (fun t3 =>
bd (m_X9_number_X4 n u1 v1 v2 t2 t3) (fun t4 =>
(if t4.1 = (-1) then
some (0, t4.2, v2)
else
(if x1 = 304 then
nm (su v2 2 0 t4.1) (fun u5 =>
some (1, t4.2, u5))
else
(if x1 = 305 then
nm (su v2 3 0 t4.1) (fun u6 =>
some (1, t4.2, u6))
else
(if x1 = 306 then
nm (su v2 4 0 t4.1) (fun u7 =>
some (1, t4.2, u7))
else
(if x1 = 307 then
nm (su v2 5 0 t4.1) (fun u8 =>
some (1, t4.2, u8))
else
nm (su v2 6 0 t4.1) (fun u9 =>
some (1, t4.2, u9)))))))))))
set_option maxHeartbeats 4000000 in
set_option maxRecDepth 100000 in
theorem c_X4_readSetting (l : Launch) (D : va_G) (y : Nat → ClassId) (ek : EK) (n : Nat) (a0 : Nat → Nat) (a1 : Nat → Nat) (a2 : Nat → Nat) (v0 : St) (v1 : St) (v2 : St) (x1 : Int32) (res : Int32 × St × St) (hf : m_X4_readSetting n v0 v1 v2 x1 = some res) : CI l yX4_readSetting wX4_readSetting { frames := 2, cells := 0, slots := 0, locals := 44 } D y ek [.ref (a0 0), .int x1] [bX4 y a0 (a1 0) (a2 0) v0, bX10 y a1 v1, bX3 y a2 v2] (res.1) [bX4 y a0 (a1 0) (a2 0) res.2.1, bX10 y a1 v1, bX3 y a2 res.2.2] 0 0 := by
  unfold m_X4_readSetting at hf
  refine ci_of (cc := cX4_readSetting) (maxL := 3) (by decide) rfl rfl (Nat.le_of_ble_eq_true rfl) ?_
  intro p e s m below meth c Q A F hret
  refine a_lv (lv' := [(0, .ref (a0 0)), (1, .int x1)]) rfl ?_
  refine a_aloadn (pc := 0) (j := 0) F dX4_readSetting_0 rfl rfl ?_
  refine a_dup (pc := 1) F dX4_readSetting_1 rfl ?_
  refine a_get (pc := 2) (kb := 0) (j := 0) (f := 2) F iW_X4 rfl rfl rfl (by decide) (tl q1_223) (u_same (F.1.2.2.2.2 _ (tl q1_224))) rfl dX4_readSetting_2 ?_
  refine a_iconst (pc := 5) F dX4_readSetting_5 kc_1 ?_
  refine a_iadd (pc := 6) F dX4_readSetting_6 ?_
  obtain ⟨u1, eu1, hf⟩ := nm_some hf
  refine a_put (pc := 7) (kb := 0) (j := 0) (f := 2) (ty := .int) (bs' := [bX4 y a0 (a1 0) (a2 0) u1, bX10 y a1 v1, bX3 y a2 v2]) F iW_X4 rfl rfl rfl (by decide) (tl q1_223) (u_same (F.1.2.2.2.2 _ (tl q1_224))) tyX4 tyX4_ok nmX4 rfl rfl rfl rfl (Nat.le_of_ble_eq_true rfl) (by rw [eu1]; rfl) dX4_readSetting_7 ?_
  refine a_aloadn (pc := 10) (j := 0) F dX4_readSetting_10 rfl rfl ?_
  refine a_iloadn (pc := 11) (j := 1) F dX4_readSetting_11 rfl rfl ?_
  refine a_sipush (pc := 12) F dX4_readSetting_12 ks_305 ?_
  refine a_join 23 (fun (t2 : Int32) => [(0, .ref (a0 0)), (1, .int x1)]) (fun (t2 : Int32) => [.int t2, .ref (a0 0)]) (fun (t2 : Int32) => [bX4 y a0 (a1 0) (a2 0) u1, bX10 y a1 v1, bX3 y a2 v2]) hf (fun t2 hf => ?_) (fun t2 hf J2 => ?_)
  · try dsimp only at hf ⊢
    refine a_iloadn (pc := 23) (j := 1) F dX4_readSetting_23 rfl rfl ?_
    obtain ⟨t3, ht3, hf⟩ := bd_some hf
    refine a_callS (pc := 24) (bs' := [bX4 y a0 (a1 0) (a2 0) u1, bX10 y a1 v1, bX3 y a2 v2]) F [] (c_X4_mostOf l D y ek n  _ _ ht3) (va_cwS 1 F.1.2.2.2.2 (gS q4_3 q4_4 q1_7 q4_5) rfl rfl rfl (by decide +kernel) ⟨Nat.le_of_ble_eq_true rfl, Nat.le_of_ble_eq_true rfl⟩) (by decide) rfl rfl rfl rfl rfl rfl (Nat.le_of_ble_eq_true rfl) ⟨Nat.zero_le _, Nat.zero_le _⟩ dX4_readSetting_24 ?_
    obtain ⟨t4, ht4, hf⟩ := bd_some hf
    refine a_callU (pc := 27) (bs' := [bX4 y a0 (a1 0) (a2 0) t4.2, bX10 y a1 v1, bX3 y a2 v2]) (kb := 0) (j := 0) F [0, 1, 2] (c_X9_number_X4 l D y ek n a0 a1 a2 _ _ _ _ _ _ ht4) (va_cwU 2 F.1.2.2.2.2 (gU q3_206 q3_207 q3_209 q3_210 q1_6 q3_211) rfl rfl rfl rfl (by decide +kernel) ⟨Nat.le_of_ble_eq_true rfl, Nat.le_of_ble_eq_true rfl⟩) rfl rfl rfl rfl (by decide) rfl rfl rfl rfl rfl rfl (Nat.le_of_ble_eq_true rfl) ⟨Nat.zero_le _, Nat.zero_le _⟩ dX4_readSetting_27 ?_
    refine a_istoren (pc := 30) (lv' := [(0, .ref (a0 0)), (1, .int x1), (2, .int t4.1)]) F [1, 2, 0] dX4_readSetting_30 rfl (by decide) rfl ?_
    refine a_iloadn (pc := 31) (j := 2) F dX4_readSetting_31 rfl rfl ?_
    refine a_iconst (pc := 32) F dX4_readSetting_32 kc_m1 ?_
    refine a_icmp_ne (pc := 33) (tgt := 38) F dX4_readSetting_33 (by decide) (fun h => ?_) (fun h => ?_)
    · replace hf := it_neg h hf
      refine a_iloadn (pc := 38) (j := 1) F dX4_readSetting_38 rfl rfl ?_
      by_cases h304 : x1 = 304
      · replace hf := it_pos h304 hf
        refine a_tin (pc := 39) (tgt := 68) (k := 304) F dX4_readSetting_39 (by rw [h304]; decide) (by decide) (by decide) rfl (by decide) ?_
        refine a_aloadn (pc := 68) (j := 0) F dX4_readSetting_68 rfl rfl ?_
        refine a_get (pc := 69) (kb := 0) (j := 0) (f := 3) F iW_X4 rfl rfl rfl (by decide) (tl q1_215) (fun _ h => h) rfl dX4_readSetting_69 ?_
        refine a_iloadn (pc := 72) (j := 2) F dX4_readSetting_72 rfl rfl ?_
        obtain ⟨u5, eu5, hf⟩ := nm_some hf
        refine a_put (pc := 73) (kb := 2) (j := 0) (f := 2) (ty := .int) (bs' := [bX4 y a0 (a1 0) (a2 0) t4.2, bX10 y a1 v1, bX3 y a2 u5]) F iW_X3 rfl rfl rfl (by decide) (tl q1_74) (fun _ h => h) tyX3 tyX3_ok nmX3 rfl rfl rfl rfl (Nat.le_of_ble_eq_true rfl) (by rw [eu5]; rfl) dX4_readSetting_73 ?_
        refine a_goto (pc := 76) (tgt := 120) F dX4_readSetting_76 (by decide) ?_
        refine a_iconst (pc := 120) F dX4_readSetting_120 kc_1 ?_
        obtain rfl := Option.some.inj hf
        exact hret _ _ _ _ (Nat.zero_le _) (Nat.zero_le _) (z_nar (Or.inr rfl)) dX4_readSetting_121
      replace hf := it_neg h304 hf
      by_cases h305 : x1 = 305
      · replace hf := it_pos h305 hf
        refine a_tin (pc := 39) (tgt := 79) (k := 305) F dX4_readSetting_39 (by rw [h305]; decide) (by decide) (by decide) rfl (by decide) ?_
        refine a_aloadn (pc := 79) (j := 0) F dX4_readSetting_79 rfl rfl ?_
        refine a_get (pc := 80) (kb := 0) (j := 0) (f := 3) F iW_X4 rfl rfl rfl (by decide) (tl q1_215) (fun _ h => h) rfl dX4_readSetting_80 ?_
        refine a_iloadn (pc := 83) (j := 2) F dX4_readSetting_83 rfl rfl ?_
        obtain ⟨u6, eu6, hf⟩ := nm_some hf
        refine a_put (pc := 84) (kb := 2) (j := 0) (f := 3) (ty := .int) (bs' := [bX4 y a0 (a1 0) (a2 0) t4.2, bX10 y a1 v1, bX3 y a2 u6]) F iW_X3 rfl rfl rfl (by decide) (tl q1_77) (fun _ h => h) tyX3 tyX3_ok nmX3 rfl rfl rfl rfl (Nat.le_of_ble_eq_true rfl) (by rw [eu6]; rfl) dX4_readSetting_84 ?_
        refine a_goto (pc := 87) (tgt := 120) F dX4_readSetting_87 (by decide) ?_
        refine a_iconst (pc := 120) F dX4_readSetting_120 kc_1 ?_
        obtain rfl := Option.some.inj hf
        exact hret _ _ _ _ (Nat.zero_le _) (Nat.zero_le _) (z_nar (Or.inr rfl)) dX4_readSetting_121
      replace hf := it_neg h305 hf
      by_cases h306 : x1 = 306
      · replace hf := it_pos h306 hf
        refine a_tin (pc := 39) (tgt := 90) (k := 306) F dX4_readSetting_39 (by rw [h306]; decide) (by decide) (by decide) rfl (by decide) ?_
        refine a_aloadn (pc := 90) (j := 0) F dX4_readSetting_90 rfl rfl ?_
        refine a_get (pc := 91) (kb := 0) (j := 0) (f := 3) F iW_X4 rfl rfl rfl (by decide) (tl q1_215) (fun _ h => h) rfl dX4_readSetting_91 ?_
        refine a_iloadn (pc := 94) (j := 2) F dX4_readSetting_94 rfl rfl ?_
        obtain ⟨u7, eu7, hf⟩ := nm_some hf
        refine a_put (pc := 95) (kb := 2) (j := 0) (f := 4) (ty := .int) (bs' := [bX4 y a0 (a1 0) (a2 0) t4.2, bX10 y a1 v1, bX3 y a2 u7]) F iW_X3 rfl rfl rfl (by decide) (tl q1_81) (fun _ h => h) tyX3 tyX3_ok nmX3 rfl rfl rfl rfl (Nat.le_of_ble_eq_true rfl) (by rw [eu7]; rfl) dX4_readSetting_95 ?_
        refine a_goto (pc := 98) (tgt := 120) F dX4_readSetting_98 (by decide) ?_
        refine a_iconst (pc := 120) F dX4_readSetting_120 kc_1 ?_
        obtain rfl := Option.some.inj hf
        exact hret _ _ _ _ (Nat.zero_le _) (Nat.zero_le _) (z_nar (Or.inr rfl)) dX4_readSetting_121
      replace hf := it_neg h306 hf
      by_cases h307 : x1 = 307
      · replace hf := it_pos h307 hf
        refine a_tin (pc := 39) (tgt := 101) (k := 307) F dX4_readSetting_39 (by rw [h307]; decide) (by decide) (by decide) rfl (by decide) ?_
        refine a_aloadn (pc := 101) (j := 0) F dX4_readSetting_101 rfl rfl ?_
        refine a_get (pc := 102) (kb := 0) (j := 0) (f := 3) F iW_X4 rfl rfl rfl (by decide) (tl q1_215) (fun _ h => h) rfl dX4_readSetting_102 ?_
        refine a_iloadn (pc := 105) (j := 2) F dX4_readSetting_105 rfl rfl ?_
        obtain ⟨u8, eu8, hf⟩ := nm_some hf
        refine a_put (pc := 106) (kb := 2) (j := 0) (f := 5) (ty := .int) (bs' := [bX4 y a0 (a1 0) (a2 0) t4.2, bX10 y a1 v1, bX3 y a2 u8]) F iW_X3 rfl rfl rfl (by decide) (tl q1_84) (fun _ h => h) tyX3 tyX3_ok nmX3 rfl rfl rfl rfl (Nat.le_of_ble_eq_true rfl) (by rw [eu8]; rfl) dX4_readSetting_106 ?_
        refine a_goto (pc := 109) (tgt := 120) F dX4_readSetting_109 (by decide) ?_
        refine a_iconst (pc := 120) F dX4_readSetting_120 kc_1 ?_
        obtain rfl := Option.some.inj hf
        exact hret _ _ _ _ (Nat.zero_le _) (Nat.zero_le _) (z_nar (Or.inr rfl)) dX4_readSetting_121
      replace hf := it_neg h307 hf
      refine a_tout (pc := 39) (tgt := 112) F dX4_readSetting_39 (by have := sw_ne 304 h304 (by decide); have := sw_ne 305 h305 (by decide); have := sw_ne 306 h306 (by decide); have := sw_ne 307 h307 (by decide); omega) (by decide) ?_
      refine a_aloadn (pc := 112) (j := 0) F dX4_readSetting_112 rfl rfl ?_
      refine a_get (pc := 113) (kb := 0) (j := 0) (f := 3) F iW_X4 rfl rfl rfl (by decide) (tl q1_215) (fun _ h => h) rfl dX4_readSetting_113 ?_
      refine a_iloadn (pc := 116) (j := 2) F dX4_readSetting_116 rfl rfl ?_
      obtain ⟨u9, eu9, hf⟩ := nm_some hf
      refine a_put (pc := 117) (kb := 2) (j := 0) (f := 6) (ty := .int) (bs' := [bX4 y a0 (a1 0) (a2 0) t4.2, bX10 y a1 v1, bX3 y a2 u9]) F iW_X3 rfl rfl rfl (by decide) (tl q1_87) (fun _ h => h) tyX3 tyX3_ok nmX3 rfl rfl rfl rfl (Nat.le_of_ble_eq_true rfl) (by rw [eu9]; rfl) dX4_readSetting_117 ?_
      refine a_iconst (pc := 120) F dX4_readSetting_120 kc_1 ?_
      obtain rfl := Option.some.inj hf
      exact hret _ _ _ _ (Nat.zero_le _) (Nat.zero_le _) (z_nar (Or.inr rfl)) dX4_readSetting_121
    · replace hf := it_pos h hf
      refine a_iconst (pc := 36) F dX4_readSetting_36 kc_0 ?_
      obtain rfl := Option.some.inj hf
      exact hret _ _ _ _ (Nat.zero_le _) (Nat.zero_le _) (z_nar (Or.inl rfl)) dX4_readSetting_37
  · refine a_icmp_ne (pc := 15) (tgt := 22) F dX4_readSetting_15 (by decide) (fun h => ?_) (fun h => ?_)
    · replace hf := it_neg h hf
      refine a_iconst (pc := 22) F dX4_readSetting_22 kc_0 ?_
      obtain rfl := Option.some.inj hf
      exact J2
    · replace hf := it_pos h hf
      refine a_iconst (pc := 18) F dX4_readSetting_18 kc_1 ?_
      refine a_goto (pc := 19) (tgt := 23) F dX4_readSetting_19 (by decide) ?_
      obtain rfl := Option.some.inj hf
      exact J2

abbrev wX4_readLine : List Cond := Cond.code yX4_readLine cX4_readLine 2 (some .boolean) :: WALL
def m_X4_readLine (n : Nat) (v0 : St) (v1 : St) (v2 : St) : Option (Int32 × St × St) :=
bd (m_X10_code n v1 (v0 2 0)) (fun t1 =>
(if t1 = 300 then
bd (m_X4_readPlank n v0 v1 v2) (fun t2 =>
(if isb t2.1 then some (t2.1, t2.2.1, t2.2.2) else none))
else
(if t1 = 301 then
bd (m_X4_readOfHouse n v0 v1 v2 t1) (fun t3 =>
(if isb t3.1 then some (t3.1, t3.2.1, t3.2.2) else none))
else
(if t1 = 302 then
bd (m_X4_readOfHouse n v0 v1 v2 t1) (fun t4 =>
(if isb t4.1 then some (t4.1, t4.2.1, t4.2.2) else none))
else
(if t1 = 303 then
bd (m_X4_readThing n v0 v1 v2) (fun t5 =>
(if isb t5.1 then some (t5.1, t5.2.1, t5.2.2) else none))
else
(if t1 = 304 then
bd (m_X4_readSetting n v0 v1 v2 t1) (fun t6 =>
(if isb t6.1 then some (t6.1, t6.2.1, t6.2.2) else none))
else
(if t1 = 305 then
bd (m_X4_readSetting n v0 v1 v2 t1) (fun t7 =>
(if isb t7.1 then some (t7.1, t7.2.1, t7.2.2) else none))
else
(if t1 = 306 then
bd (m_X4_readSetting n v0 v1 v2 t1) (fun t8 =>
(if isb t8.1 then some (t8.1, t8.2.1, t8.2.2) else none))
else
(if t1 = 307 then
bd (m_X4_readSetting n v0 v1 v2 t1) (fun t9 =>
(if isb t9.1 then some (t9.1, t9.2.1, t9.2.2) else none))
else
(if t1 = 308 then
bd (m_X4_readSetting n v0 v1 v2 t1) (fun t10 =>
(if isb t10.1 then some (t10.1, t10.2.1, t10.2.2) else none))
else
some (0, v0, v2)))))))))))
set_option maxHeartbeats 4000000 in
set_option maxRecDepth 100000 in
theorem c_X4_readLine (l : Launch) (D : va_G) (y : Nat → ClassId) (ek : EK) (n : Nat) (a0 : Nat → Nat) (a1 : Nat → Nat) (a2 : Nat → Nat) (v0 : St) (v1 : St) (v2 : St) (res : Int32 × St × St) (hf : m_X4_readLine n v0 v1 v2 = some res) : CI l yX4_readLine wX4_readLine { frames := 3, cells := 0, slots := 0, locals := 67 } D y ek [.ref (a0 0)] [bX4 y a0 (a1 0) (a2 0) v0, bX10 y a1 v1, bX3 y a2 v2] (res.1) [bX4 y a0 (a1 0) (a2 0) res.2.1, bX10 y a1 v1, bX3 y a2 res.2.2] 0 0 := by
  unfold m_X4_readLine at hf
  refine ci_of (cc := cX4_readLine) (maxL := 2) (by decide) rfl rfl (Nat.le_of_ble_eq_true rfl) ?_
  intro p e s m below meth c Q A F hret
  refine a_lv (lv' := [(0, .ref (a0 0))]) rfl ?_
  refine a_aloadn (pc := 0) (j := 0) F dX4_readLine_0 rfl rfl ?_
  refine a_get (pc := 1) (kb := 0) (j := 0) (f := 0) F iW_X4 rfl rfl rfl (by decide) (tl q1_217) (u_same (F.1.2.2.2.2 _ (tl q1_218))) rfl dX4_readLine_1 ?_
  refine a_aloadn (pc := 4) (j := 0) F dX4_readLine_4 rfl rfl ?_
  refine a_get (pc := 5) (kb := 0) (j := 0) (f := 2) F iW_X4 rfl rfl rfl (by decide) (tl q1_223) (u_same (F.1.2.2.2.2 _ (tl q1_224))) rfl dX4_readLine_5 ?_
  obtain ⟨t1, ht1, hf⟩ := bd_some hf
  refine a_callV (pc := 8) (bs' := [bX4 y a0 (a1 0) (a2 0) v0, bX10 y a1 v1, bX3 y a2 v2]) (kb := 1) (j := 0) F [1] (c_X10_code l D y ek n a1 _ _ _ ht1) (cwV 1 F.1.2.2.2.2 (gV q3_201 q3_192 q3_193 q1_2 q3_194) rfl rfl rfl (by decide +kernel) ⟨Nat.le_of_ble_eq_true rfl, Nat.le_of_ble_eq_true rfl⟩) rfl rfl rfl rfl (by decide) rfl rfl rfl rfl rfl rfl (Nat.le_of_ble_eq_true rfl) ⟨Nat.zero_le _, Nat.zero_le _⟩ dX4_readLine_8 ?_
  refine a_istoren (pc := 11) (lv' := [(0, .ref (a0 0)), (1, .int t1)]) F [1, 0] dX4_readLine_11 rfl (by decide) rfl ?_
  refine a_iloadn (pc := 12) (j := 1) F dX4_readLine_12 rfl rfl ?_
  by_cases h300 : t1 = 300
  · replace hf := it_pos h300 hf
    refine a_tin (pc := 13) (tgt := 64) (k := 300) F dX4_readLine_13 (by rw [h300]; decide) (by decide) (by decide) rfl (by decide) ?_
    refine a_aloadn (pc := 64) (j := 0) F dX4_readLine_64 rfl rfl ?_
    obtain ⟨t2, ht2, hf⟩ := bd_some hf
    refine a_callV (pc := 65) (bs' := [bX4 y a0 (a1 0) (a2 0) t2.2.1, bX10 y a1 v1, bX3 y a2 t2.2.2]) (kb := 0) (j := 0) F [0, 1, 2] (c_X4_readPlank l D y ek n a0 a1 a2 _ _ _ _ ht2) (cwV 0 F.1.2.2.2.2 (gV q3_202 q3_204 qs_7 q1_7 q3_205) rfl rfl rfl (by decide +kernel) ⟨Nat.le_of_ble_eq_true rfl, Nat.le_of_ble_eq_true rfl⟩) rfl rfl rfl rfl (by decide) rfl rfl rfl rfl rfl rfl (Nat.le_of_ble_eq_true rfl) ⟨Nat.zero_le _, Nat.zero_le _⟩ dX4_readLine_65 ?_
    obtain ⟨hz, hf⟩ := gd_some hf
    obtain rfl := Option.some.inj hf
    exact hret _ _ _ _ (Nat.zero_le _) (Nat.zero_le _) (z_nar hz) dX4_readLine_68
  replace hf := it_neg h300 hf
  by_cases h301 : t1 = 301
  · replace hf := it_pos h301 hf
    refine a_tin (pc := 13) (tgt := 74) (k := 301) F dX4_readLine_13 (by rw [h301]; decide) (by decide) (by decide) rfl (by decide) ?_
    refine a_aloadn (pc := 74) (j := 0) F dX4_readLine_74 rfl rfl ?_
    refine a_iloadn (pc := 75) (j := 1) F dX4_readLine_75 rfl rfl ?_
    obtain ⟨t3, ht3, hf⟩ := bd_some hf
    refine a_callV (pc := 76) (bs' := [bX4 y a0 (a1 0) (a2 0) t3.2.1, bX10 y a1 v1, bX3 y a2 t3.2.2]) (kb := 0) (j := 0) F [0, 1, 2] (c_X4_readOfHouse l D y ek n a0 a1 a2 _ _ _ _ _ ht3) (cwV 1 F.1.2.2.2.2 (gV q3_235 q3_237 qs_9 q1_7 q3_238) rfl rfl rfl (by decide +kernel) ⟨Nat.le_of_ble_eq_true rfl, Nat.le_of_ble_eq_true rfl⟩) rfl rfl rfl rfl (by decide) rfl rfl rfl rfl rfl rfl (Nat.le_of_ble_eq_true rfl) ⟨Nat.zero_le _, Nat.zero_le _⟩ dX4_readLine_76 ?_
    obtain ⟨hz, hf⟩ := gd_some hf
    obtain rfl := Option.some.inj hf
    exact hret _ _ _ _ (Nat.zero_le _) (Nat.zero_le _) (z_nar hz) dX4_readLine_79
  replace hf := it_neg h301 hf
  by_cases h302 : t1 = 302
  · replace hf := it_pos h302 hf
    refine a_tin (pc := 13) (tgt := 74) (k := 302) F dX4_readLine_13 (by rw [h302]; decide) (by decide) (by decide) rfl (by decide) ?_
    refine a_aloadn (pc := 74) (j := 0) F dX4_readLine_74 rfl rfl ?_
    refine a_iloadn (pc := 75) (j := 1) F dX4_readLine_75 rfl rfl ?_
    obtain ⟨t4, ht4, hf⟩ := bd_some hf
    refine a_callV (pc := 76) (bs' := [bX4 y a0 (a1 0) (a2 0) t4.2.1, bX10 y a1 v1, bX3 y a2 t4.2.2]) (kb := 0) (j := 0) F [0, 1, 2] (c_X4_readOfHouse l D y ek n a0 a1 a2 _ _ _ _ _ ht4) (cwV 1 F.1.2.2.2.2 (gV q3_235 q3_237 qs_9 q1_7 q3_238) rfl rfl rfl (by decide +kernel) ⟨Nat.le_of_ble_eq_true rfl, Nat.le_of_ble_eq_true rfl⟩) rfl rfl rfl rfl (by decide) rfl rfl rfl rfl rfl rfl (Nat.le_of_ble_eq_true rfl) ⟨Nat.zero_le _, Nat.zero_le _⟩ dX4_readLine_76 ?_
    obtain ⟨hz, hf⟩ := gd_some hf
    obtain rfl := Option.some.inj hf
    exact hret _ _ _ _ (Nat.zero_le _) (Nat.zero_le _) (z_nar hz) dX4_readLine_79
  replace hf := it_neg h302 hf
  by_cases h303 : t1 = 303
  · replace hf := it_pos h303 hf
    refine a_tin (pc := 13) (tgt := 69) (k := 303) F dX4_readLine_13 (by rw [h303]; decide) (by decide) (by decide) rfl (by decide) ?_
    refine a_aloadn (pc := 69) (j := 0) F dX4_readLine_69 rfl rfl ?_
    obtain ⟨t5, ht5, hf⟩ := bd_some hf
    refine a_callV (pc := 70) (bs' := [bX4 y a0 (a1 0) (a2 0) t5.2.1, bX10 y a1 v1, bX3 y a2 t5.2.2]) (kb := 0) (j := 0) F [0, 1, 2] (c_X4_readThing l D y ek n a0 a1 a2 _ _ _ _ ht5) (cwV 0 F.1.2.2.2.2 (gV q3_226 q3_228 qs_8 q1_7 q3_229) rfl rfl rfl (by decide +kernel) ⟨Nat.le_of_ble_eq_true rfl, Nat.le_of_ble_eq_true rfl⟩) rfl rfl rfl rfl (by decide) rfl rfl rfl rfl rfl rfl (Nat.le_of_ble_eq_true rfl) ⟨Nat.zero_le _, Nat.zero_le _⟩ dX4_readLine_70 ?_
    obtain ⟨hz, hf⟩ := gd_some hf
    obtain rfl := Option.some.inj hf
    exact hret _ _ _ _ (Nat.zero_le _) (Nat.zero_le _) (z_nar hz) dX4_readLine_73
  replace hf := it_neg h303 hf
  by_cases h304 : t1 = 304
  · replace hf := it_pos h304 hf
    refine a_tin (pc := 13) (tgt := 80) (k := 304) F dX4_readLine_13 (by rw [h304]; decide) (by decide) (by decide) rfl (by decide) ?_
    refine a_aloadn (pc := 80) (j := 0) F dX4_readLine_80 rfl rfl ?_
    refine a_iloadn (pc := 81) (j := 1) F dX4_readLine_81 rfl rfl ?_
    obtain ⟨t6, ht6, hf⟩ := bd_some hf
    refine a_callV (pc := 82) (bs' := [bX4 y a0 (a1 0) (a2 0) t6.2.1, bX10 y a1 v1, bX3 y a2 t6.2.2]) (kb := 0) (j := 0) F [0, 1, 2] (c_X4_readSetting l D y ek n a0 a1 a2 _ _ _ _ _ ht6) (cwV 1 F.1.2.2.2.2 (gV q3_239 q4_1 qs_10 q1_7 q4_2) rfl rfl rfl (by decide +kernel) ⟨Nat.le_of_ble_eq_true rfl, Nat.le_of_ble_eq_true rfl⟩) rfl rfl rfl rfl (by decide) rfl rfl rfl rfl rfl rfl (Nat.le_of_ble_eq_true rfl) ⟨Nat.zero_le _, Nat.zero_le _⟩ dX4_readLine_82 ?_
    obtain ⟨hz, hf⟩ := gd_some hf
    obtain rfl := Option.some.inj hf
    exact hret _ _ _ _ (Nat.zero_le _) (Nat.zero_le _) (z_nar hz) dX4_readLine_85
  replace hf := it_neg h304 hf
  by_cases h305 : t1 = 305
  · replace hf := it_pos h305 hf
    refine a_tin (pc := 13) (tgt := 80) (k := 305) F dX4_readLine_13 (by rw [h305]; decide) (by decide) (by decide) rfl (by decide) ?_
    refine a_aloadn (pc := 80) (j := 0) F dX4_readLine_80 rfl rfl ?_
    refine a_iloadn (pc := 81) (j := 1) F dX4_readLine_81 rfl rfl ?_
    obtain ⟨t7, ht7, hf⟩ := bd_some hf
    refine a_callV (pc := 82) (bs' := [bX4 y a0 (a1 0) (a2 0) t7.2.1, bX10 y a1 v1, bX3 y a2 t7.2.2]) (kb := 0) (j := 0) F [0, 1, 2] (c_X4_readSetting l D y ek n a0 a1 a2 _ _ _ _ _ ht7) (cwV 1 F.1.2.2.2.2 (gV q3_239 q4_1 qs_10 q1_7 q4_2) rfl rfl rfl (by decide +kernel) ⟨Nat.le_of_ble_eq_true rfl, Nat.le_of_ble_eq_true rfl⟩) rfl rfl rfl rfl (by decide) rfl rfl rfl rfl rfl rfl (Nat.le_of_ble_eq_true rfl) ⟨Nat.zero_le _, Nat.zero_le _⟩ dX4_readLine_82 ?_
    obtain ⟨hz, hf⟩ := gd_some hf
    obtain rfl := Option.some.inj hf
    exact hret _ _ _ _ (Nat.zero_le _) (Nat.zero_le _) (z_nar hz) dX4_readLine_85
  replace hf := it_neg h305 hf
  by_cases h306 : t1 = 306
  · replace hf := it_pos h306 hf
    refine a_tin (pc := 13) (tgt := 80) (k := 306) F dX4_readLine_13 (by rw [h306]; decide) (by decide) (by decide) rfl (by decide) ?_
    refine a_aloadn (pc := 80) (j := 0) F dX4_readLine_80 rfl rfl ?_
    refine a_iloadn (pc := 81) (j := 1) F dX4_readLine_81 rfl rfl ?_
    obtain ⟨t8, ht8, hf⟩ := bd_some hf
    refine a_callV (pc := 82) (bs' := [bX4 y a0 (a1 0) (a2 0) t8.2.1, bX10 y a1 v1, bX3 y a2 t8.2.2]) (kb := 0) (j := 0) F [0, 1, 2] (c_X4_readSetting l D y ek n a0 a1 a2 _ _ _ _ _ ht8) (cwV 1 F.1.2.2.2.2 (gV q3_239 q4_1 qs_10 q1_7 q4_2) rfl rfl rfl (by decide +kernel) ⟨Nat.le_of_ble_eq_true rfl, Nat.le_of_ble_eq_true rfl⟩) rfl rfl rfl rfl (by decide) rfl rfl rfl rfl rfl rfl (Nat.le_of_ble_eq_true rfl) ⟨Nat.zero_le _, Nat.zero_le _⟩ dX4_readLine_82 ?_
    obtain ⟨hz, hf⟩ := gd_some hf
    obtain rfl := Option.some.inj hf
    exact hret _ _ _ _ (Nat.zero_le _) (Nat.zero_le _) (z_nar hz) dX4_readLine_85
  replace hf := it_neg h306 hf
  by_cases h307 : t1 = 307
  · replace hf := it_pos h307 hf
    refine a_tin (pc := 13) (tgt := 80) (k := 307) F dX4_readLine_13 (by rw [h307]; decide) (by decide) (by decide) rfl (by decide) ?_
    refine a_aloadn (pc := 80) (j := 0) F dX4_readLine_80 rfl rfl ?_
    refine a_iloadn (pc := 81) (j := 1) F dX4_readLine_81 rfl rfl ?_
    obtain ⟨t9, ht9, hf⟩ := bd_some hf
    refine a_callV (pc := 82) (bs' := [bX4 y a0 (a1 0) (a2 0) t9.2.1, bX10 y a1 v1, bX3 y a2 t9.2.2]) (kb := 0) (j := 0) F [0, 1, 2] (c_X4_readSetting l D y ek n a0 a1 a2 _ _ _ _ _ ht9) (cwV 1 F.1.2.2.2.2 (gV q3_239 q4_1 qs_10 q1_7 q4_2) rfl rfl rfl (by decide +kernel) ⟨Nat.le_of_ble_eq_true rfl, Nat.le_of_ble_eq_true rfl⟩) rfl rfl rfl rfl (by decide) rfl rfl rfl rfl rfl rfl (Nat.le_of_ble_eq_true rfl) ⟨Nat.zero_le _, Nat.zero_le _⟩ dX4_readLine_82 ?_
    obtain ⟨hz, hf⟩ := gd_some hf
    obtain rfl := Option.some.inj hf
    exact hret _ _ _ _ (Nat.zero_le _) (Nat.zero_le _) (z_nar hz) dX4_readLine_85
  replace hf := it_neg h307 hf
  by_cases h308 : t1 = 308
  · replace hf := it_pos h308 hf
    refine a_tin (pc := 13) (tgt := 80) (k := 308) F dX4_readLine_13 (by rw [h308]; decide) (by decide) (by decide) rfl (by decide) ?_
    refine a_aloadn (pc := 80) (j := 0) F dX4_readLine_80 rfl rfl ?_
    refine a_iloadn (pc := 81) (j := 1) F dX4_readLine_81 rfl rfl ?_
    obtain ⟨t10, ht10, hf⟩ := bd_some hf
    refine a_callV (pc := 82) (bs' := [bX4 y a0 (a1 0) (a2 0) t10.2.1, bX10 y a1 v1, bX3 y a2 t10.2.2]) (kb := 0) (j := 0) F [0, 1, 2] (c_X4_readSetting l D y ek n a0 a1 a2 _ _ _ _ _ ht10) (cwV 1 F.1.2.2.2.2 (gV q3_239 q4_1 qs_10 q1_7 q4_2) rfl rfl rfl (by decide +kernel) ⟨Nat.le_of_ble_eq_true rfl, Nat.le_of_ble_eq_true rfl⟩) rfl rfl rfl rfl (by decide) rfl rfl rfl rfl rfl rfl (Nat.le_of_ble_eq_true rfl) ⟨Nat.zero_le _, Nat.zero_le _⟩ dX4_readLine_82 ?_
    obtain ⟨hz, hf⟩ := gd_some hf
    obtain rfl := Option.some.inj hf
    exact hret _ _ _ _ (Nat.zero_le _) (Nat.zero_le _) (z_nar hz) dX4_readLine_85
  replace hf := it_neg h308 hf
  refine a_tout (pc := 13) (tgt := 86) F dX4_readLine_13 (by have := sw_ne 300 h300 (by decide); have := sw_ne 301 h301 (by decide); have := sw_ne 302 h302 (by decide); have := sw_ne 303 h303 (by decide); have := sw_ne 304 h304 (by decide); have := sw_ne 305 h305 (by decide); have := sw_ne 306 h306 (by decide); have := sw_ne 307 h307 (by decide); have := sw_ne 308 h308 (by decide); omega) (by decide) ?_
  refine a_iconst (pc := 86) F dX4_readLine_86 kc_0 ?_
  obtain rfl := Option.some.inj hf
  exact hret _ _ _ _ (Nat.zero_le _) (Nat.zero_le _) (z_nar (Or.inl rfl)) dX4_readLine_87

abbrev wX9_read : List Cond := Cond.code yX9_read cX9_read 2 (some .int) :: WALL
def m_X9_read_X4 (n : Nat) (v0 : St) (v1 : St) (v2 : St) : Option (Int32 × St × St) :=
nm (su v0 2 0 0) (fun u1 =>
bd (m_X10_code n v1 (u1 2 0)) (fun t2 =>
(if t2 = 259 then
some ((-1), u1, v2)
else
jn (fun (t3 : St × St) =>
bd (m_X10_start n v1 (t3.1 2 0)) (fun t4 =>
some (t4, t3.1, t3.2))) (fun (K3 : St × St → Option (Int32 × St × St)) =>
lp (fun (rc5 : Int32 × St × St → Option (Int32 × St × St)) (x5l : Int32 × St × St) =>
(if (x5l.2.1 1 0) ≤ x5l.1 then
K3 (x5l.2.1, x5l.2.2)
else
bd (m_X4_readLine n x5l.2.1 v1 x5l.2.2) (fun t6 =>
(if t6.1 = 0 then
bd (m_X10_start n v1 (t6.2.1 2 0)) (fun t10 =>
some (t10, t6.2.1, t6.2.2))
else
bd (m_X9_skip_X4 n t6.2.1 v1 t6.2.2 259) (fun t7 =>
(if t7.1 = 0 then
bd (m_X9_skip_X4 n t7.2 v1 t6.2.2 59) (fun t8 =>
(if t8.1 = 0 then
bd (m_X10_start n v1 (t8.2 2 0)) (fun t9 =>
some (t9, t8.2, t6.2.2))
else
rc5 ((x5l.1 + 1), t8.2, t6.2.2)))
else
some ((-1), t7.2, t6.2.2))))))) n (0, u1, v2)))))
set_option maxHeartbeats 4000000 in
set_option maxRecDepth 100000 in
theorem c_X9_read_X4 (l : Launch) (D : va_G) (y : Nat → ClassId) (ek : EK) (n : Nat) (a0 : Nat → Nat) (a1 : Nat → Nat) (a2 : Nat → Nat) (v0 : St) (v1 : St) (v2 : St) (res : Int32 × St × St) (hf : m_X9_read_X4 n v0 v1 v2 = some res) : CI l yX9_read wX9_read { frames := 4, cells := 0, slots := 0, locals := 88 } D y ek [.ref (a0 0)] [bX4 y a0 (a1 0) (a2 0) v0, bX10 y a1 v1, bX3 y a2 v2] (res.1) [bX4 y a0 (a1 0) (a2 0) res.2.1, bX10 y a1 v1, bX3 y a2 res.2.2] 0 0 := by
  unfold m_X9_read_X4 at hf
  refine ci_of (cc := cX9_read) (maxL := 2) (by decide) rfl rfl (Nat.le_of_ble_eq_true rfl) ?_
  intro p e s m below meth c Q A F hret
  refine a_lv (lv' := [(0, .ref (a0 0))]) rfl ?_
  refine a_aloadn (pc := 0) (j := 0) F dX9_read_0 rfl rfl ?_
  refine a_iconst (pc := 1) F dX9_read_1 kc_0 ?_
  obtain ⟨u1, eu1, hf⟩ := nm_some hf
  refine a_put (pc := 2) (kb := 0) (j := 0) (f := 2) (ty := .int) (bs' := [bX4 y a0 (a1 0) (a2 0) u1, bX10 y a1 v1, bX3 y a2 v2]) F iW_X4 rfl rfl rfl (by decide) (tl q1_222) (fun _ h => h) tyX4 tyX4_ok nmX4 rfl rfl rfl rfl (Nat.le_of_ble_eq_true rfl) (by rw [eu1]; rfl) dX9_read_2 ?_
  refine a_aloadn (pc := 5) (j := 0) F dX9_read_5 rfl rfl ?_
  refine a_get (pc := 6) (kb := 0) (j := 0) (f := 0) F iW_X4 rfl rfl rfl (by decide) (tl q1_216) (fun _ h => h) rfl dX9_read_6 ?_
  refine a_aloadn (pc := 9) (j := 0) F dX9_read_9 rfl rfl ?_
  refine a_get (pc := 10) (kb := 0) (j := 0) (f := 2) F iW_X4 rfl rfl rfl (by decide) (tl q1_222) (fun _ h => h) rfl dX9_read_10 ?_
  obtain ⟨t2, ht2, hf⟩ := bd_some hf
  refine a_callV (pc := 13) (bs' := [bX4 y a0 (a1 0) (a2 0) u1, bX10 y a1 v1, bX3 y a2 v2]) (kb := 1) (j := 0) F [1] (c_X10_code l D y ek n a1 _ _ _ ht2) (cwV 1 F.1.2.2.2.2 (gV q3_191 q3_192 q3_193 q1_2 q3_194) rfl rfl rfl (by decide +kernel) ⟨Nat.le_of_ble_eq_true rfl, Nat.le_of_ble_eq_true rfl⟩) rfl rfl rfl rfl (by decide) rfl rfl rfl rfl rfl rfl (Nat.le_of_ble_eq_true rfl) ⟨Nat.zero_le _, Nat.zero_le _⟩ dX9_read_13 ?_
  refine a_sipush (pc := 16) F dX9_read_16 ks_259 ?_
  refine a_icmp_ne (pc := 19) (tgt := 24) F dX9_read_19 (by decide) (fun h => ?_) (fun h => ?_)
  · replace hf := it_neg h hf
    refine a_iconst (pc := 24) F dX9_read_24 kc_0 ?_
    refine a_istoren (pc := 25) (lv' := [(0, .ref (a0 0)), (1, .int 0)]) F [1, 0] dX9_read_25 rfl (by decide) rfl ?_
    refine a_jn 92 (fun (t3 : St × St) => [(0, .ref (a0 0))]) (fun (t3 : St × St) => []) (fun (t3 : St × St) => [bX4 y a0 (a1 0) (a2 0) t3.1, bX10 y a1 v1, bX3 y a2 t3.2]) hf (fun t3 hf => ?_) (fun K3 hK3 hf => ?_)
    · try dsimp only at hf ⊢
      refine a_aloadn (pc := 92) (j := 0) F dX9_read_92 rfl rfl ?_
      refine a_get (pc := 93) (kb := 0) (j := 0) (f := 0) F iW_X4 rfl rfl rfl (by decide) (tl q1_216) (fun _ h => h) rfl dX9_read_93 ?_
      refine a_aloadn (pc := 96) (j := 0) F dX9_read_96 rfl rfl ?_
      refine a_get (pc := 97) (kb := 0) (j := 0) (f := 2) F iW_X4 rfl rfl rfl (by decide) (tl q1_222) (fun _ h => h) rfl dX9_read_97 ?_
      obtain ⟨t4, ht4, hf⟩ := bd_some hf
      refine a_callV (pc := 100) (bs' := [bX4 y a0 (a1 0) (a2 0) t3.1, bX10 y a1 v1, bX3 y a2 t3.2]) (kb := 1) (j := 0) F [1] (c_X10_start l D y ek n a1 _ _ _ ht4) (cwV 1 F.1.2.2.2.2 (gV q4_45 q4_46 q4_47 q1_2 q4_48) rfl rfl rfl (by decide +kernel) ⟨Nat.le_of_ble_eq_true rfl, Nat.le_of_ble_eq_true rfl⟩) rfl rfl rfl rfl (by decide) rfl rfl rfl rfl rfl rfl (Nat.le_of_ble_eq_true rfl) ⟨Nat.zero_le _, Nat.zero_le _⟩ dX9_read_100 ?_
      obtain rfl := Option.some.inj hf
      exact hret _ _ _ _ (Nat.zero_le _) (Nat.zero_le _) rfl dX9_read_103
    · try dsimp only at hf
      refine a_loop 26 (fun (x5l : Int32 × St × St) => [(0, .ref (a0 0)), (1, .int x5l.1)]) (fun (x5l : Int32 × St × St) => [bX4 y a0 (a1 0) (a2 0) x5l.2.1, bX10 y a1 v1, bX3 y a2 x5l.2.2]) (fun rc5 x5l ih5 hf => ?_) hf rfl rfl
      try dsimp only at hf ⊢
      refine a_iloadn (pc := 26) (j := 1) F dX9_read_26 rfl rfl ?_
      refine a_aloadn (pc := 27) (j := 0) F dX9_read_27 rfl rfl ?_
      refine a_get (pc := 28) (kb := 0) (j := 0) (f := 1) F iW_X4 rfl rfl rfl (by decide) (tl q1_221) (fun _ h => h) rfl dX9_read_28 ?_
      refine a_icmp_ge (pc := 31) (tgt := 92) F dX9_read_31 (by decide) (fun h => ?_) (fun h => ?_)
      · replace hf := it_pos h hf
        refine a_sub [0] rfl ?_
        exact hK3 (x5l.2.1, x5l.2.2) hf
      · replace hf := it_neg h hf
        refine a_aloadn (pc := 34) (j := 0) F dX9_read_34 rfl rfl ?_
        obtain ⟨t6, ht6, hf⟩ := bd_some hf
        refine a_callU (pc := 35) (bs' := [bX4 y a0 (a1 0) (a2 0) t6.2.1, bX10 y a1 v1, bX3 y a2 t6.2.2]) (kb := 0) (j := 0) F [0, 1, 2] (c_X4_readLine l D y ek n a0 a1 a2 _ _ _ _ ht6) (va_cwA 0 F.1.2.2.2.2 (gU q3_195 q3_197 q3_198 q3_199 q1_7 q3_200) rfl rfl rfl F.2.2.2.2.2.2.2.2.2.2.2.1 (by decide +kernel) ⟨Nat.le_of_ble_eq_true rfl, Nat.le_of_ble_eq_true rfl⟩) rfl rfl rfl rfl (by decide) rfl rfl rfl rfl rfl rfl (Nat.le_of_ble_eq_true rfl) ⟨Nat.zero_le _, Nat.zero_le _⟩ dX9_read_35 ?_
        refine a_if_ne (pc := 38) (tgt := 53) F dX9_read_38 (by decide) (fun h => ?_) (fun h => ?_)
        · replace hf := it_neg h hf
          refine a_aloadn (pc := 53) (j := 0) F dX9_read_53 rfl rfl ?_
          refine a_sipush (pc := 54) F dX9_read_54 ks_259 ?_
          obtain ⟨t7, ht7, hf⟩ := bd_some hf
          refine a_callU (pc := 57) (bs' := [bX4 y a0 (a1 0) (a2 0) t7.2, bX10 y a1 v1, bX3 y a2 t6.2.2]) (kb := 0) (j := 0) F [0, 1, 2] (c_X9_skip_X4 l D y ek n a0 a1 a2 _ _ _ _ _ ht7) (va_cwU 1 F.1.2.2.2.2 (gU q4_49 q8_238 q8_239 q3_220 q1_6 q3_221) rfl rfl rfl rfl (by decide +kernel) ⟨Nat.le_of_ble_eq_true rfl, Nat.le_of_ble_eq_true rfl⟩) rfl rfl rfl rfl (by decide) rfl rfl rfl rfl rfl rfl (Nat.le_of_ble_eq_true rfl) ⟨Nat.zero_le _, Nat.zero_le _⟩ dX9_read_57 ?_
          refine a_if_eq (pc := 60) (tgt := 65) F dX9_read_60 (by decide) (fun h => ?_) (fun h => ?_)
          · replace hf := it_pos h hf
            refine a_aloadn (pc := 65) (j := 0) F dX9_read_65 rfl rfl ?_
            refine a_bipush (pc := 66) F dX9_read_66 kb_59 ?_
            obtain ⟨t8, ht8, hf⟩ := bd_some hf
            refine a_callU (pc := 68) (bs' := [bX4 y a0 (a1 0) (a2 0) t8.2, bX10 y a1 v1, bX3 y a2 t6.2.2]) (kb := 0) (j := 0) F [0, 1, 2] (c_X9_skip_X4 l D y ek n a0 a1 a2 _ _ _ _ _ ht8) (va_cwU 1 F.1.2.2.2.2 (gU q4_49 q8_238 q8_239 q3_220 q1_6 q3_221) rfl rfl rfl rfl (by decide +kernel) ⟨Nat.le_of_ble_eq_true rfl, Nat.le_of_ble_eq_true rfl⟩) rfl rfl rfl rfl (by decide) rfl rfl rfl rfl rfl rfl (Nat.le_of_ble_eq_true rfl) ⟨Nat.zero_le _, Nat.zero_le _⟩ dX9_read_68 ?_
            refine a_if_ne (pc := 71) (tgt := 86) F dX9_read_71 (by decide) (fun h => ?_) (fun h => ?_)
            · replace hf := it_neg h hf
              refine a_iinc (pc := 86) (j := 1) (v := (x5l.1 + 1)) (lv' := [(0, .ref (a0 0)), (1, .int (x5l.1 + 1))]) F [1, 0] dX9_read_86 rfl ki_1 (by decide) rfl ?_
              refine a_goto (pc := 89) (tgt := 26) F dX9_read_89 (by decide) ?_
              exact ih5 ((x5l.1 + 1), t8.2, t6.2.2) hf
            · replace hf := it_pos h hf
              refine a_aloadn (pc := 74) (j := 0) F dX9_read_74 rfl rfl ?_
              refine a_get (pc := 75) (kb := 0) (j := 0) (f := 0) F iW_X4 rfl rfl rfl (by decide) (tl q1_216) (fun _ h => h) rfl dX9_read_75 ?_
              refine a_aloadn (pc := 78) (j := 0) F dX9_read_78 rfl rfl ?_
              refine a_get (pc := 79) (kb := 0) (j := 0) (f := 2) F iW_X4 rfl rfl rfl (by decide) (tl q1_222) (fun _ h => h) rfl dX9_read_79 ?_
              obtain ⟨t9, ht9, hf⟩ := bd_some hf
              refine a_callV (pc := 82) (bs' := [bX4 y a0 (a1 0) (a2 0) t8.2, bX10 y a1 v1, bX3 y a2 t6.2.2]) (kb := 1) (j := 0) F [1] (c_X10_start l D y ek n a1 _ _ _ ht9) (cwV 1 F.1.2.2.2.2 (gV q4_45 q4_46 q4_47 q1_2 q4_48) rfl rfl rfl (by decide +kernel) ⟨Nat.le_of_ble_eq_true rfl, Nat.le_of_ble_eq_true rfl⟩) rfl rfl rfl rfl (by decide) rfl rfl rfl rfl rfl rfl (Nat.le_of_ble_eq_true rfl) ⟨Nat.zero_le _, Nat.zero_le _⟩ dX9_read_82 ?_
              obtain rfl := Option.some.inj hf
              exact hret _ _ _ _ (Nat.zero_le _) (Nat.zero_le _) rfl dX9_read_85
          · replace hf := it_neg h hf
            refine a_iconst (pc := 63) F dX9_read_63 kc_m1 ?_
            obtain rfl := Option.some.inj hf
            exact hret _ _ _ _ (Nat.zero_le _) (Nat.zero_le _) rfl dX9_read_64
        · replace hf := it_pos h hf
          refine a_aloadn (pc := 41) (j := 0) F dX9_read_41 rfl rfl ?_
          refine a_get (pc := 42) (kb := 0) (j := 0) (f := 0) F iW_X4 rfl rfl rfl (by decide) (tl q1_216) (fun _ h => h) rfl dX9_read_42 ?_
          refine a_aloadn (pc := 45) (j := 0) F dX9_read_45 rfl rfl ?_
          refine a_get (pc := 46) (kb := 0) (j := 0) (f := 2) F iW_X4 rfl rfl rfl (by decide) (tl q1_222) (fun _ h => h) rfl dX9_read_46 ?_
          obtain ⟨t10, ht10, hf⟩ := bd_some hf
          refine a_callV (pc := 49) (bs' := [bX4 y a0 (a1 0) (a2 0) t6.2.1, bX10 y a1 v1, bX3 y a2 t6.2.2]) (kb := 1) (j := 0) F [1] (c_X10_start l D y ek n a1 _ _ _ ht10) (cwV 1 F.1.2.2.2.2 (gV q4_45 q4_46 q4_47 q1_2 q4_48) rfl rfl rfl (by decide +kernel) ⟨Nat.le_of_ble_eq_true rfl, Nat.le_of_ble_eq_true rfl⟩) rfl rfl rfl rfl (by decide) rfl rfl rfl rfl rfl rfl (Nat.le_of_ble_eq_true rfl) ⟨Nat.zero_le _, Nat.zero_le _⟩ dX9_read_49 ?_
          obtain rfl := Option.some.inj hf
          exact hret _ _ _ _ (Nat.zero_le _) (Nat.zero_le _) rfl dX9_read_52
  · replace hf := it_pos h hf
    refine a_iconst (pc := 22) F dX9_read_22 kc_m1 ?_
    obtain rfl := Option.some.inj hf
    exact hret _ _ _ _ (Nat.zero_le _) (Nat.zero_le _) rfl dX9_read_23
