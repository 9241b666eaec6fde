def m_X9_skip_X6 (n : Nat) (v0 : St) (v1 : St) (v2 : St) (x1 : Int32) : Option (Int32 × St) :=
(if (v1 3 0) ≤ (v0 2 0) then
some (0, v0)
else
(if ix (v0 2 0) 401 then (if (v1 0 ((v0 2 0)).toNatClampNeg) = x1 then
nm (su v0 2 0 ((v0 2 0) + 1)) (fun u2 =>
some (1, u2))
else
some (0, v0)) else none))
set_option maxHeartbeats 4000000 in
set_option maxRecDepth 100000 in
theorem c_X9_skip_X6 (l : Launch) (D : va_G) (y : Nat → ClassId) (ek : EK) (n : Nat) (a0 : Nat → Nat) (a1 : Nat → Nat) (a2 : Nat → Nat) (v0 : St) (v1 : St) (v2 : St) (x1 : Int32) (res : Int32 × St) (hf : m_X9_skip_X6 n v0 v1 v2 x1 = some res) : CI l yX9_skip wX9_skip { frames := 0, cells := 0, slots := 0, locals := 0 } D y ek [.ref (a0 0), .int x1] [bX6 y a0 (a1 0) (a2 0) v0, bX10 y a1 v1, bX5 y a2 v2] (res.1) [bX6 y a0 (a1 0) (a2 0) res.2, bX10 y a1 v1, bX5 y a2 v2] 0 0 := by
  unfold m_X9_skip_X6 at hf
  refine ci_of (cc := cX9_skip) (maxL := 2) (by decide) rfl rfl (Nat.le_of_ble_eq_true rfl) ?_
  intro p e s m below meth c Q A F hret
  refine a_lv (lv' := [(0, .ref (a0 0)), (1, .int x1)]) rfl ?_
  refine a_aloadn (pc := 0) (j := 0) F dX9_skip_0 rfl rfl ?_
  refine a_get (pc := 1) (kb := 0) (j := 0) (f := 2) F iW_X6 rfl rfl rfl (by decide) (tl q1_222) (fun _ h => h) rfl dX9_skip_1 ?_
  refine a_aloadn (pc := 4) (j := 0) F dX9_skip_4 rfl rfl ?_
  refine a_get (pc := 5) (kb := 0) (j := 0) (f := 0) F iW_X6 rfl rfl rfl (by decide) (tl q1_216) (fun _ h => h) rfl dX9_skip_5 ?_
  refine a_getN (pc := 8) (kb := 1) (j := 0) (f := 3) F iW_X10 rfl rfl rfl (by decide) F.2.2.2.2.2.2.2.2.2.2.1 (fun _ h => h) rfl dX9_skip_8 ?_
  refine a_icmp_ge (pc := 11) (tgt := 30) F dX9_skip_11 (by decide) (fun h => ?_) (fun h => ?_)
  · replace hf := it_pos h hf
    refine a_iconst (pc := 30) F dX9_skip_30 kc_0 ?_
    obtain rfl := Option.some.inj hf
    exact hret _ _ _ _ (Nat.zero_le _) (Nat.zero_le _) (z_nar (Or.inl rfl)) dX9_skip_31
  · replace hf := it_neg h hf
    refine a_aloadn (pc := 14) (j := 0) F dX9_skip_14 rfl rfl ?_
    refine a_get (pc := 15) (kb := 0) (j := 0) (f := 0) F iW_X6 rfl rfl rfl (by decide) (tl q1_216) (fun _ h => h) rfl dX9_skip_15 ?_
    refine a_getN (pc := 18) (kb := 1) (j := 0) (f := 0) F iW_X10 rfl rfl rfl (by decide) F.2.2.2.2.2.2.2.2.2.1 (fun _ h => h) rfl dX9_skip_18 ?_
    refine a_aloadn (pc := 21) (j := 0) F dX9_skip_21 rfl rfl ?_
    refine a_get (pc := 22) (kb := 0) (j := 0) (f := 2) F iW_X6 rfl rfl rfl (by decide) (tl q1_222) (fun _ h => h) rfl dX9_skip_22 ?_
    obtain ⟨h1, hf⟩ := gd_some hf
    refine a_iald (pc := 25) (kb := 1) (j := 1) F rfl rfl h1 dX9_skip_25 ?_
    refine a_iloadn (pc := 26) (j := 1) F dX9_skip_26 rfl rfl ?_
    refine a_icmp_eq (pc := 27) (tgt := 32) F dX9_skip_27 (by decide) (fun h => ?_) (fun h => ?_)
    · replace hf := it_pos h hf
      refine a_aloadn (pc := 32) (j := 0) F dX9_skip_32 rfl rfl ?_
      refine a_dup (pc := 33) F dX9_skip_33 rfl ?_
      refine a_get (pc := 34) (kb := 0) (j := 0) (f := 2) F iW_X6 rfl rfl rfl (by decide) (tl q1_222) (fun _ h => h) rfl dX9_skip_34 ?_
      refine a_iconst (pc := 37) F dX9_skip_37 kc_1 ?_
      refine a_iadd (pc := 38) F dX9_skip_38 ?_
      obtain ⟨u2, eu2, hf⟩ := nm_some hf
      refine a_put (pc := 39) (kb := 0) (j := 0) (f := 2) (ty := .int) (bs' := [bX6 y a0 (a1 0) (a2 0) u2, bX10 y a1 v1, bX5 y a2 v2]) F iW_X6 rfl rfl rfl (by decide) (tl q1_222) (fun _ h => h) tyX6 tyX6_ok nmX6 rfl rfl rfl rfl (Nat.le_of_ble_eq_true rfl) (by rw [eu2]; rfl) dX9_skip_39 ?_
      refine a_iconst (pc := 42) F dX9_skip_42 kc_1 ?_
      obtain rfl := Option.some.inj hf
      exact hret _ _ _ _ (Nat.zero_le _) (Nat.zero_le _) (z_nar (Or.inr rfl)) dX9_skip_43
    · replace hf := it_neg h hf
      refine a_iconst (pc := 30) F dX9_skip_30 kc_0 ?_
      obtain rfl := Option.some.inj hf
      exact hret _ _ _ _ (Nat.zero_le _) (Nat.zero_le _) (z_nar (Or.inl rfl)) dX9_skip_31

def m_X9_number_X6 (n : Nat) (v0 : St) (v1 : St) (v2 : St) (x1 : Int32) (x2 : Int32) : Option (Int32 × St) :=
bd (m_X10_value n v1 (v0 2 0)) (fun t1 =>
bd (m_X10_code n v1 (v0 2 0)) (fun t2 =>
(if t2 = 256 then
(if t1 < x1 then
some ((-1), v0)
else
(if t1 ≤ x2 then
nm (su v0 2 0 ((v0 2 0) + 1)) (fun u3 =>
some (t1, u3))
else
some ((-1), v0)))
else
some ((-1), v0))))
set_option maxHeartbeats 4000000 in
set_option maxRecDepth 100000 in
theorem c_X9_number_X6 (l : Launch) (D : va_G) (y : Nat → ClassId) (ek : EK) (n : Nat) (a0 : Nat → Nat) (a1 : Nat → Nat) (a2 : Nat → Nat) (v0 : St) (v1 : St) (v2 : St) (x1 : Int32) (x2 : Int32) (res : Int32 × St) (hf : m_X9_number_X6 n v0 v1 v2 x1 x2 = some res) : CI l yX9_number wX9_number { frames := 1, cells := 0, slots := 0, locals := 21 } D y ek [.ref (a0 0), .int x1, .int x2] [bX6 y a0 (a1 0) (a2 0) v0, bX10 y a1 v1, bX5 y a2 v2] (res.1) [bX6 y a0 (a1 0) (a2 0) res.2, bX10 y a1 v1, bX5 y a2 v2] 0 0 := by
  unfold m_X9_number_X6 at hf
  refine ci_of (cc := cX9_number) (maxL := 4) (by decide) rfl rfl (Nat.le_of_ble_eq_true rfl) ?_
  intro p e s m below meth c Q A F hret
  refine a_lv (lv' := [(0, .ref (a0 0)), (1, .int x1), (2, .int x2)]) rfl ?_
  refine a_aloadn (pc := 0) (j := 0) F dX9_number_0 rfl rfl ?_
  refine a_get (pc := 1) (kb := 0) (j := 0) (f := 0) F iW_X6 rfl rfl rfl (by decide) (tl q1_216) (fun _ h => h) rfl dX9_number_1 ?_
  refine a_aloadn (pc := 4) (j := 0) F dX9_number_4 rfl rfl ?_
  refine a_get (pc := 5) (kb := 0) (j := 0) (f := 2) F iW_X6 rfl rfl rfl (by decide) (tl q1_222) (fun _ h => h) rfl dX9_number_5 ?_
  obtain ⟨t1, ht1, hf⟩ := bd_some hf
  refine a_callV (pc := 8) (bs' := [bX6 y a0 (a1 0) (a2 0) v0, bX10 y a1 v1, bX5 y a2 v2]) (kb := 1) (j := 0) F [1] (c_X10_value l D y ek n a1 _ _ _ ht1) (cwV 1 F.1.2.2.2.2 (gV q3_212 q3_213 q3_214 q1_2 q3_215) rfl rfl rfl (by decide +kernel) ⟨Nat.le_of_ble_eq_true rfl, Nat.le_of_ble_eq_true rfl⟩) rfl rfl rfl rfl (by decide) rfl rfl rfl rfl rfl rfl (Nat.le_of_ble_eq_true rfl) ⟨Nat.zero_le _, Nat.zero_le _⟩ dX9_number_8 ?_
  refine a_istoren (pc := 11) (lv' := [(0, .ref (a0 0)), (1, .int x1), (2, .int x2), (3, .int t1)]) F [1, 2, 3, 0] dX9_number_11 rfl (by decide) rfl ?_
  refine a_aloadn (pc := 12) (j := 0) F dX9_number_12 rfl rfl ?_
  refine a_get (pc := 13) (kb := 0) (j := 0) (f := 0) F iW_X6 rfl rfl rfl (by decide) (tl q1_216) (fun _ h => h) rfl dX9_number_13 ?_
  refine a_aloadn (pc := 16) (j := 0) F dX9_number_16 rfl rfl ?_
  refine a_get (pc := 17) (kb := 0) (j := 0) (f := 2) F iW_X6 rfl rfl rfl (by decide) (tl q1_222) (fun _ h => h) rfl dX9_number_17 ?_
  obtain ⟨t2, ht2, hf⟩ := bd_some hf
  refine a_callV (pc := 20) (bs' := [bX6 y a0 (a1 0) (a2 0) v0, bX10 y a1 v1, bX5 y a2 v2]) (kb := 1) (j := 0) F [1] (c_X10_code l D y ek n a1 _ _ _ ht2) (cwV 1 F.1.2.2.2.2 (gV q3_191 q3_192 q3_193 q1_2 q3_194) rfl rfl rfl (by decide +kernel) ⟨Nat.le_of_ble_eq_true rfl, Nat.le_of_ble_eq_true rfl⟩) rfl rfl rfl rfl (by decide) rfl rfl rfl rfl rfl rfl (Nat.le_of_ble_eq_true rfl) ⟨Nat.zero_le _, Nat.zero_le _⟩ dX9_number_20 ?_
  refine a_sipush (pc := 23) F dX9_number_23 ks_256 ?_
  refine a_icmp_ne (pc := 26) (tgt := 39) F dX9_number_26 (by decide) (fun h => ?_) (fun h => ?_)
  · replace hf := it_neg h hf
    refine a_iconst (pc := 39) F dX9_number_39 kc_m1 ?_
    obtain rfl := Option.some.inj hf
    exact hret _ _ _ _ (Nat.zero_le _) (Nat.zero_le _) rfl dX9_number_40
  · replace hf := it_pos h hf
    refine a_iloadn (pc := 29) (j := 3) F dX9_number_29 rfl rfl ?_
    refine a_iloadn (pc := 30) (j := 1) F dX9_number_30 rfl rfl ?_
    refine a_icmp_lt (pc := 31) (tgt := 39) F dX9_number_31 (by decide) (fun h => ?_) (fun h => ?_)
    · replace hf := it_pos h hf
      refine a_iconst (pc := 39) F dX9_number_39 kc_m1 ?_
      obtain rfl := Option.some.inj hf
      exact hret _ _ _ _ (Nat.zero_le _) (Nat.zero_le _) rfl dX9_number_40
    · replace hf := it_neg h hf
      refine a_iloadn (pc := 34) (j := 3) F dX9_number_34 rfl rfl ?_
      refine a_iloadn (pc := 35) (j := 2) F dX9_number_35 rfl rfl ?_
      refine a_icmp_le (pc := 36) (tgt := 41) F dX9_number_36 (by decide) (fun h => ?_) (fun h => ?_)
      · replace hf := it_pos h hf
        refine a_aloadn (pc := 41) (j := 0) F dX9_number_41 rfl rfl ?_
        refine a_dup (pc := 42) F dX9_number_42 rfl ?_
        refine a_get (pc := 43) (kb := 0) (j := 0) (f := 2) F iW_X6 rfl rfl rfl (by decide) (tl q1_222) (fun _ h => h) rfl dX9_number_43 ?_
        refine a_iconst (pc := 46) F dX9_number_46 kc_1 ?_
        refine a_iadd (pc := 47) F dX9_number_47 ?_
        obtain ⟨u3, eu3, hf⟩ := nm_some hf
        refine a_put (pc := 48) (kb := 0) (j := 0) (f := 2) (ty := .int) (bs' := [bX6 y a0 (a1 0) (a2 0) u3, bX10 y a1 v1, bX5 y a2 v2]) F iW_X6 rfl rfl rfl (by decide) (tl q1_222) (fun _ h => h) tyX6 tyX6_ok nmX6 rfl rfl rfl rfl (Nat.le_of_ble_eq_true rfl) (by rw [eu3]; rfl) dX9_number_48 ?_
        refine a_iloadn (pc := 51) (j := 3) F dX9_number_51 rfl rfl ?_
        obtain rfl := Option.some.inj hf
        exact hret _ _ _ _ (Nat.zero_le _) (Nat.zero_le _) rfl dX9_number_52
      · replace hf := it_neg h hf
        refine a_iconst (pc := 39) F dX9_number_39 kc_m1 ?_
        obtain rfl := Option.some.inj hf
        exact hret _ _ _ _ (Nat.zero_le _) (Nat.zero_le _) rfl dX9_number_40

abbrev wX6_readSum : List Cond := Cond.code yX6_readSum cX6_readSum 4 (some .boolean) :: WALL
def m_X6_readSum (n : Nat) (v0 : St) (v1 : St) (v2 : St) : Option (Int32 × St × St) :=
lp (fun (rc1 : Int32 × St × St → Option (Int32 × St × St)) (x1l : Int32 × St × St) =>
(if 400 ≤ x1l.1 then
some (0, x1l.2.1, x1l.2.2)
else
bd (m_X10_code n v1 (x1l.2.1 2 0)) (fun t2 =>
bd (jn (fun (t12 : Unit) =>
some 1) (fun (K12 : Unit → Option (Int32)) =>
(if t2 = 302 then
K12 ()
else
jn (fun (t13 : Unit) =>
some 0) (fun (K13 : Unit → Option (Int32)) =>
(if t2 < 320 then
K13 ()
else
(if 324 < t2 then
K13 ()
else
K12 ())))))) (fun (t3 : Int32) =>
jn (fun (t4 : Unit) =>
bd ((if t3 = 0 then
bd (m_X10_value n v1 (x1l.2.1 2 0)) (fun t11 =>
some t11)
else
some (-t2))) (fun (t5 : Int32) =>
bd (m_X5_put n x1l.2.2 t5) (fun t6 =>
nm (su x1l.2.1 2 0 ((x1l.2.1 2 0) + 1)) (fun u7 =>
bd ((if x1l.1 ≤ 0 then
some t6
else
bd (m_X5_put n t6 (-43)) (fun t10 =>
some t10))) (fun (t8 : St) =>
bd (m_X9_skip_X6 n u7 v1 t8 43) (fun t9 =>
(if t9.1 = 0 then
some (1, t9.2, t8)
else
rc1 ((x1l.1 + 1), t9.2, t8)))))))) (fun (K4 : Unit → Option (Int32 × St × St)) =>
(if t3 = 0 then
(if t2 = 256 then
K4 ()
else
some (0, x1l.2.1, x1l.2.2))
else
K4 ())))))) n (0, v0, v2)
set_option maxHeartbeats 4000000 in
set_option maxRecDepth 100000 in
theorem c_X6_readSum (l : Launch) (D : va_G) (y : Nat → ClassId) (ek : EK) (n : Nat) (a0 : Nat → Nat) (a1 : Nat → Nat) (a2 : Nat → Nat) (v0 : St) (v1 : St) (v2 : St) (res : Int32 × St × St) (hf : m_X6_readSum n v0 v1 v2 = some res) : CI l yX6_readSum wX6_readSum { frames := 1, cells := 0, slots := 0, locals := 21 } D y ek [.ref (a0 0)] [bX6 y a0 (a1 0) (a2 0) v0, bX10 y a1 v1, bX5 y a2 v2] (res.1) [bX6 y a0 (a1 0) (a2 0) res.2.1, bX10 y a1 v1, bX5 y a2 res.2.2] 0 0 := by
  unfold m_X6_readSum at hf
  refine ci_of (cc := cX6_readSum) (maxL := 4) (by decide) rfl rfl (Nat.le_of_ble_eq_true rfl) ?_
  intro p e s m below meth c Q A F hret
  refine a_lv (lv' := [(0, .ref (a0 0))]) rfl ?_
  refine a_iconst (pc := 0) F dX6_readSum_0 kc_0 ?_
  refine a_istoren (pc := 1) (lv' := [(0, .ref (a0 0)), (1, .int 0)]) F [1, 0] dX6_readSum_1 rfl (by decide) rfl ?_
  refine a_loop 2 (fun (x1l : Int32 × St × St) => [(0, .ref (a0 0)), (1, .int x1l.1)]) (fun (x1l : Int32 × St × St) => [bX6 y a0 (a1 0) (a2 0) x1l.2.1, bX10 y a1 v1, bX5 y a2 x1l.2.2]) (fun rc1 x1l ih1 hf => ?_) hf rfl rfl
  try dsimp only at hf ⊢
  refine a_iloadn (pc := 2) (j := 1) F dX6_readSum_2 rfl rfl ?_
  refine a_sipush (pc := 3) F dX6_readSum_3 ks_400 ?_
  refine a_icmp_ge (pc := 6) (tgt := 128) F dX6_readSum_6 (by decide) (fun h => ?_) (fun h => ?_)
  · replace hf := it_pos h hf
    refine a_iconst (pc := 128) F dX6_readSum_128 kc_0 ?_
    obtain rfl := Option.some.inj hf
    exact hret _ _ _ _ (Nat.zero_le _) (Nat.zero_le _) (z_nar (Or.inl rfl)) dX6_readSum_129
  · replace hf := it_neg h hf
    refine a_aloadn (pc := 9) (j := 0) F dX6_readSum_9 rfl rfl ?_
    refine a_get (pc := 10) (kb := 0) (j := 0) (f := 0) F iW_X6 rfl rfl rfl (by decide) (tl q1_219) (u_same (F.1.2.2.2.2 _ (tl q1_220))) rfl dX6_readSum_10 ?_
    refine a_aloadn (pc := 13) (j := 0) F dX6_readSum_13 rfl rfl ?_
    refine a_get (pc := 14) (kb := 0) (j := 0) (f := 2) F iW_X6 rfl rfl rfl (by decide) (tl q1_225) (u_same (F.1.2.2.2.2 _ (tl q1_226))) rfl dX6_readSum_14 ?_
    obtain ⟨t2, ht2, hf⟩ := bd_some hf
    refine a_callV (pc := 17) (bs' := [bX6 y a0 (a1 0) (a2 0) x1l.2.1, bX10 y a1 v1, bX5 y a2 x1l.2.2]) (kb := 1) (j := 0) F [1] (c_X10_code l D y ek n a1 _ _ _ ht2) (cwV 1 F.1.2.2.2.2 (gV q4_9 q3_192 q3_193 q1_2 q3_194) rfl rfl rfl (by decide +kernel) ⟨Nat.le_of_ble_eq_true rfl, Nat.le_of_ble_eq_true rfl⟩) rfl rfl rfl rfl (by decide) rfl rfl rfl rfl rfl rfl (Nat.le_of_ble_eq_true rfl) ⟨Nat.zero_le _, Nat.zero_le _⟩ dX6_readSum_17 ?_
    refine a_istoren (pc := 20) (lv' := [(0, .ref (a0 0)), (1, .int x1l.1), (2, .int t2)]) F [1, 2, 0] dX6_readSum_20 rfl (by decide) rfl ?_
    refine a_iloadn (pc := 21) (j := 2) F dX6_readSum_21 rfl rfl ?_
    refine a_sipush (pc := 22) F dX6_readSum_22 ks_302 ?_
    refine a_join 47 (fun (t3 : Int32) => [(0, .ref (a0 0)), (1, .int x1l.1), (2, .int t2)]) (fun (t3 : Int32) => [.int t3]) (fun (t3 : Int32) => [bX6 y a0 (a1 0) (a2 0) x1l.2.1, bX10 y a1 v1, bX5 y a2 x1l.2.2]) hf (fun t3 hf => ?_) (fun t3 hf J3 => ?_)
    · try dsimp only at hf ⊢
      refine a_istoren (pc := 47) (lv' := [(0, .ref (a0 0)), (1, .int x1l.1), (2, .int t2), (3, .int t3)]) F [1, 2, 3, 0] dX6_readSum_47 rfl (by decide) rfl ?_
      refine a_iloadn (pc := 48) (j := 3) F dX6_readSum_48 rfl rfl ?_
      refine a_jn 61 (fun (t4 : Unit) => [(0, .ref (a0 0)), (1, .int x1l.1), (2, .int t2), (3, .int t3)]) (fun (t4 : Unit) => []) (fun (t4 : Unit) => [bX6 y a0 (a1 0) (a2 0) x1l.2.1, bX10 y a1 v1, bX5 y a2 x1l.2.2]) hf (fun t4 hf => ?_) (fun K4 hK4 hf => ?_)
      · try dsimp only at hf ⊢
        refine a_aloadn (pc := 61) (j := 0) F dX6_readSum_61 rfl rfl ?_
        refine a_get (pc := 62) (kb := 0) (j := 0) (f := 3) F iW_X6 rfl rfl rfl (by decide) (tl q2_2) (fun _ h => h) rfl dX6_readSum_62 ?_
        refine a_iloadn (pc := 65) (j := 3) F dX6_readSum_65 rfl rfl ?_
        refine a_join 85 (fun (t5 : Int32) => [(0, .ref (a0 0)), (1, .int x1l.1)]) (fun (t5 : Int32) => [.int t5, .ref (a2 0)]) (fun (t5 : Int32) => [bX6 y a0 (a1 0) (a2 0) x1l.2.1, bX10 y a1 v1, bX5 y a2 x1l.2.2]) hf (fun t5 hf => ?_) (fun t5 hf J5 => ?_)
        · try dsimp only at hf ⊢
          obtain ⟨t6, ht6, hf⟩ := bd_some hf
          refine a_callVv (pc := 85) (bs' := [bX6 y a0 (a1 0) (a2 0) x1l.2.1, bX10 y a1 v1, bX5 y a2 t6]) (kb := 2) (j := 0) F [2] (c_X5_put l D y ek n a2 _ _ _ ht6) (cwV 1 F.1.2.2.2.2 (gV q4_32 q4_33 q4_34 q1_4 q4_35) rfl rfl rfl (by decide +kernel) ⟨Nat.le_of_ble_eq_true rfl, Nat.le_of_ble_eq_true rfl⟩) rfl rfl rfl rfl (by decide) rfl rfl rfl rfl rfl rfl (Nat.le_of_ble_eq_true rfl) ⟨Nat.zero_le _, Nat.zero_le _⟩ dX6_readSum_85 ?_
          refine a_aloadn (pc := 88) (j := 0) F dX6_readSum_88 rfl rfl ?_
          refine a_dup (pc := 89) F dX6_readSum_89 rfl ?_
          refine a_get (pc := 90) (kb := 0) (j := 0) (f := 2) F iW_X6 rfl rfl rfl (by decide) (tl q1_225) (u_same (F.1.2.2.2.2 _ (tl q1_226))) rfl dX6_readSum_90 ?_
          refine a_iconst (pc := 93) F dX6_readSum_93 kc_1 ?_
          refine a_iadd (pc := 94) F dX6_readSum_94 ?_
          obtain ⟨u7, eu7, hf⟩ := nm_some hf
          refine a_put (pc := 95) (kb := 0) (j := 0) (f := 2) (ty := .int) (bs' := [bX6 y a0 (a1 0) (a2 0) u7, bX10 y a1 v1, bX5 y a2 t6]) F iW_X6 rfl rfl rfl (by decide) (tl q1_225) (u_same (F.1.2.2.2.2 _ (tl q1_226))) tyX6 tyX6_ok nmX6 rfl rfl rfl rfl (Nat.le_of_ble_eq_true rfl) (by rw [eu7]; rfl) dX6_readSum_95 ?_
          refine a_iloadn (pc := 98) (j := 1) F dX6_readSum_98 rfl rfl ?_
          refine a_join 111 (fun (t8 : St) => [(0, .ref (a0 0)), (1, .int x1l.1)]) (fun (t8 : St) => []) (fun (t8 : St) => [bX6 y a0 (a1 0) (a2 0) u7, bX10 y a1 v1, bX5 y a2 t8]) hf (fun t8 hf => ?_) (fun t8 hf J8 => ?_)
          · try dsimp only at hf ⊢
            refine a_aloadn (pc := 111) (j := 0) F dX6_readSum_111 rfl rfl ?_
            refine a_bipush (pc := 112) F dX6_readSum_112 kb_43 ?_
            obtain ⟨t9, ht9, hf⟩ := bd_some hf
            refine a_callU (pc := 114) (bs' := [bX6 y a0 (a1 0) (a2 0) t9.2, bX10 y a1 v1, bX5 y a2 t8]) (kb := 0) (j := 0) F [0, 1, 2] (c_X9_skip_X6 l D y ek n a0 a1 a2 _ _ _ _ _ ht9) (va_cwU 1 F.1.2.2.2.2 (gU q4_13 q4_14 q4_15 q3_220 q1_6 q3_221) rfl rfl rfl rfl (by decide +kernel) ⟨Nat.le_of_ble_eq_true rfl, Nat.le_of_ble_eq_true rfl⟩) rfl rfl rfl rfl (by decide) rfl rfl rfl rfl rfl rfl (Nat.le_of_ble_eq_true rfl) ⟨Nat.zero_le _, Nat.zero_le _⟩ dX6_readSum_114 ?_
            refine a_if_ne (pc := 117) (tgt := 122) F dX6_readSum_117 (by decide) (fun h => ?_) (fun h => ?_)
            · replace hf := it_neg h hf
              refine a_iinc (pc := 122) (j := 1) (v := (x1l.1 + 1)) (lv' := [(0, .ref (a0 0)), (1, .int (x1l.1 + 1))]) F [1, 0] dX6_readSum_122 rfl ki_1 (by decide) rfl ?_
              refine a_goto (pc := 125) (tgt := 2) F dX6_readSum_125 (by decide) ?_
              exact ih1 ((x1l.1 + 1), t9.2, t8) hf
            · replace hf := it_pos h hf
              refine a_iconst (pc := 120) F dX6_readSum_120 kc_1 ?_
              obtain rfl := Option.some.inj hf
              exact hret _ _ _ _ (Nat.zero_le _) (Nat.zero_le _) (z_nar (Or.inr rfl)) dX6_readSum_121
          · refine a_if_le (pc := 99) (tgt := 111) F dX6_readSum_99 (by decide) (fun h => ?_) (fun h => ?_)
            · replace hf := it_pos h hf
              obtain rfl := Option.some.inj hf
              exact J8
            · replace hf := it_neg h hf
              refine a_aloadn (pc := 102) (j := 0) F dX6_readSum_102 rfl rfl ?_
              refine a_get (pc := 103) (kb := 0) (j := 0) (f := 3) F iW_X6 rfl rfl rfl (by decide) (tl q2_2) (fun _ h => h) rfl dX6_readSum_103 ?_
              refine a_bipush (pc := 106) F dX6_readSum_106 kb_m43 ?_
              obtain ⟨t10, ht10, hf⟩ := bd_some hf
              refine a_callVv (pc := 108) (bs' := [bX6 y a0 (a1 0) (a2 0) u7, bX10 y a1 v1, bX5 y a2 t10]) (kb := 2) (j := 0) F [2] (c_X5_put l D y ek n a2 _ _ _ ht10) (cwV 1 F.1.2.2.2.2 (gV q4_32 q4_33 q4_34 q1_4 q4_35) rfl rfl rfl (by decide +kernel) ⟨Nat.le_of_ble_eq_true rfl, Nat.le_of_ble_eq_true rfl⟩) rfl rfl rfl rfl (by decide) rfl rfl rfl rfl rfl rfl (Nat.le_of_ble_eq_true rfl) ⟨Nat.zero_le _, Nat.zero_le _⟩ dX6_readSum_108 ?_
              obtain rfl := Option.some.inj hf
              exact J8
        · refine a_if_eq (pc := 66) (tgt := 74) F dX6_readSum_66 (by decide) (fun h => ?_) (fun h => ?_)
          · replace hf := it_pos h hf
            refine a_aloadn (pc := 74) (j := 0) F dX6_readSum_74 rfl rfl ?_
            refine a_get (pc := 75) (kb := 0) (j := 0) (f := 0) F iW_X6 rfl rfl rfl (by decide) (tl q1_219) (u_same (F.1.2.2.2.2 _ (tl q1_220))) rfl dX6_readSum_75 ?_
            refine a_aloadn (pc := 78) (j := 0) F dX6_readSum_78 rfl rfl ?_
            refine a_get (pc := 79) (kb := 0) (j := 0) (f := 2) F iW_X6 rfl rfl rfl (by decide) (tl q1_225) (u_same (F.1.2.2.2.2 _ (tl q1_226))) rfl dX6_readSum_79 ?_
            obtain ⟨t11, ht11, hf⟩ := bd_some hf
            refine a_callV (pc := 82) (bs' := [bX6 y a0 (a1 0) (a2 0) x1l.2.1, bX10 y a1 v1, bX5 y a2 x1l.2.2]) (kb := 1) (j := 0) F [1] (c_X10_value l D y ek n a1 _ _ _ ht11) (cwV 1 F.1.2.2.2.2 (gV q4_40 q3_213 q3_214 q1_2 q3_215) rfl rfl rfl (by decide +kernel) ⟨Nat.le_of_ble_eq_true rfl, Nat.le_of_ble_eq_true rfl⟩) rfl rfl rfl rfl (by decide) rfl rfl rfl rfl rfl rfl (Nat.le_of_ble_eq_true rfl) ⟨Nat.zero_le _, Nat.zero_le _⟩ dX6_readSum_82 ?_
            refine a_sub [0, 1] rfl ?_
            obtain rfl := Option.some.inj hf
            exact J5
          · replace hf := it_neg h hf
            refine a_iloadn (pc := 69) (j := 2) F dX6_readSum_69 rfl rfl ?_
            refine a_ineg (pc := 70) F dX6_readSum_70 ?_
            refine a_goto (pc := 71) (tgt := 85) F dX6_readSum_71 (by decide) ?_
            refine a_sub [0, 1] rfl ?_
            obtain rfl := Option.some.inj hf
            exact J5
      · try dsimp only at hf
        refine a_if_ne (pc := 49) (tgt := 61) F dX6_readSum_49 (by decide) (fun h => ?_) (fun h => ?_)
        · replace hf := it_neg h hf
          exact hK4 () hf
        · replace hf := it_pos h hf
          refine a_iloadn (pc := 52) (j := 2) F dX6_readSum_52 rfl rfl ?_
          refine a_sipush (pc := 53) F dX6_readSum_53 ks_256 ?_
          refine a_icmp_eq (pc := 56) (tgt := 61) F dX6_readSum_56 (by decide) (fun h => ?_) (fun h => ?_)
          · replace hf := it_pos h hf
            exact hK4 () hf
          · replace hf := it_neg h hf
            refine a_iconst (pc := 59) F dX6_readSum_59 kc_0 ?_
            obtain rfl := Option.some.inj hf
            exact hret _ _ _ _ (Nat.zero_le _) (Nat.zero_le _) (z_nar (Or.inl rfl)) dX6_readSum_60
    · refine a_jn 42 (fun (t12 : Unit) => [(0, .ref (a0 0)), (1, .int x1l.1), (2, .int t2)]) (fun (t12 : Unit) => []) (fun (t12 : Unit) => [bX6 y a0 (a1 0) (a2 0) x1l.2.1, bX10 y a1 v1, bX5 y a2 x1l.2.2]) hf (fun t12 hf => ?_) (fun K12 hK12 hf => ?_)
      · try dsimp only at hf ⊢
        refine a_iconst (pc := 42) F dX6_readSum_42 kc_1 ?_
        refine a_goto (pc := 43) (tgt := 47) F dX6_readSum_43 (by decide) ?_
        obtain rfl := Option.some.inj hf
        exact J3
      · try dsimp only at hf
        refine a_icmp_eq (pc := 25) (tgt := 42) F dX6_readSum_25 (by decide) (fun h => ?_) (fun h => ?_)
        · replace hf := it_pos h hf
          exact hK12 () hf
        · replace hf := it_neg h hf
          refine a_iloadn (pc := 28) (j := 2) F dX6_readSum_28 rfl rfl ?_
          refine a_sipush (pc := 29) F dX6_readSum_29 ks_320 ?_
          refine a_jn 46 (fun (t13 : Unit) => [(0, .ref (a0 0)), (1, .int x1l.1), (2, .int t2)]) (fun (t13 : Unit) => []) (fun (t13 : Unit) => [bX6 y a0 (a1 0) (a2 0) x1l.2.1, bX10 y a1 v1, bX5 y a2 x1l.2.2]) hf (fun t13 hf => ?_) (fun K13 hK13 hf => ?_)
          · try dsimp only at hf ⊢
            refine a_iconst (pc := 46) F dX6_readSum_46 kc_0 ?_
            obtain rfl := Option.some.inj hf
            exact J3
          · try dsimp only at hf
            refine a_icmp_lt (pc := 32) (tgt := 46) F dX6_readSum_32 (by decide) (fun h => ?_) (fun h => ?_)
            · replace hf := it_pos h hf
              exact hK13 () hf
            · replace hf := it_neg h hf
              refine a_iloadn (pc := 35) (j := 2) F dX6_readSum_35 rfl rfl ?_
              refine a_sipush (pc := 36) F dX6_readSum_36 ks_324 ?_
              refine a_icmp_gt (pc := 39) (tgt := 46) F dX6_readSum_39 (by decide) (fun h => ?_) (fun h => ?_)
              · replace hf := it_pos h hf
                exact hK13 () hf
              · replace hf := it_neg h hf
                exact hK12 () hf

abbrev wX6_readAny : List Cond := Cond.code yX6_readAny cX6_readAny 3 (some .boolean) :: WALL
abbrev wX6_readAll : List Cond := Cond.code yX6_readAll cX6_readAll 3 (some .boolean) :: WALL
abbrev wX6_readAtom : List Cond := Cond.code yX6_readAtom cX6_readAtom 4 (some .boolean) :: WALL
abbrev wX6_readDeeper : List Cond := Cond.code yX6_readDeeper cX6_readDeeper 3 (some .boolean) :: WALL
def G_X6_readAny (n : Nat) : Nat → Nat → St → St → St → Int32 → Int32 → Option (Int32 × St × St)
  | 0, _, _, _, _, _, _ => none
  | d + 1, 0, v0, v1, v2, x1, _ =>
    bd (G_X6_readAny n d 1 v0 v1 v2 x1 0) (fun t1 =>
    (if t1.1 = 0 then
    some (0, t1.2.1, t1.2.2)
    else
    jn (fun (t2 : St × St) =>
    some (1, t2.1, t2.2)) (fun (K2 : St × St → Option (Int32 × St × St)) =>
    lp (fun (rc3 : Int32 × St × St → Option (Int32 × St × St)) (x3l : Int32 × St × St) =>
    (if 400 ≤ x3l.1 then
    K2 (x3l.2.1, x3l.2.2)
    else
    bd (m_X9_skip_X6 n x3l.2.1 v1 x3l.2.2 315) (fun t4 =>
    (if t4.1 = 0 then
    K2 (t4.2, x3l.2.2)
    else
    bd (G_X6_readAny n d 1 t4.2 v1 x3l.2.2 x1 0) (fun t5 =>
    (if t5.1 = 0 then
    some (0, t5.2.1, t5.2.2)
    else
    bd (m_X5_put n t5.2.2 (-315)) (fun t6 =>
    rc3 ((x3l.1 + 1), t5.2.1, t6)))))))) n (0, t1.2.1, t1.2.2))))
  | d + 1, 1, v0, v1, v2, x1, _ =>
    bd (G_X6_readAny n d 2 v0 v1 v2 x1 0) (fun t1 =>
    (if t1.1 = 0 then
    some (0, t1.2.1, t1.2.2)
    else
    jn (fun (t2 : St × St) =>
    some (1, t2.1, t2.2)) (fun (K2 : St × St → Option (Int32 × St × St)) =>
    lp (fun (rc3 : Int32 × St × St → Option (Int32 × St × St)) (x3l : Int32 × St × St) =>
    (if 400 ≤ x3l.1 then
    K2 (x3l.2.1, x3l.2.2)
    else
    bd (m_X9_skip_X6 n x3l.2.1 v1 x3l.2.2 316) (fun t4 =>
    (if t4.1 = 0 then
    K2 (t4.2, x3l.2.2)
    else
    bd (G_X6_readAny n d 2 t4.2 v1 x3l.2.2 x1 0) (fun t5 =>
    (if t5.1 = 0 then
    some (0, t5.2.1, t5.2.2)
    else
    bd (m_X5_put n t5.2.2 (-316)) (fun t6 =>
    rc3 ((x3l.1 + 1), t5.2.1, t6)))))))) n (0, t1.2.1, t1.2.2))))
  | d + 1, 2, v0, v1, v2, x1, _ =>
    bd (m_X10_code n v1 (v0 2 0)) (fun t1 =>
    jn (fun (t2 : Unit) =>
    jn (fun (t3 : St × St) =>
    some (0, t3.1, t3.2)) (fun (K3 : St × St → Option (Int32 × St × St)) =>
    (if 6 ≤ x1 then
    K3 (v0, v2)
    else
    bd (G_X6_readAny n d 3 v0 v1 v2 t1 (x1 + 1)) (fun t4 =>
    (if t4.1 = 0 then
    K3 (t4.2.1, t4.2.2)
    else
    some (1, t4.2.1, t4.2.2)))))) (fun (K2 : Unit → Option (Int32 × St × St)) =>
    (if t1 = 317 then
    K2 ()
    else
    (if t1 = 40 then
    K2 ()
    else
    jn (fun (t5 : Unit) =>
    nm (su v0 2 0 ((v0 2 0) + 1)) (fun u6 =>
    bd (m_X5_put n v2 (-t1)) (fun t7 =>
    some (1, u6, t7)))) (fun (K5 : Unit → Option (Int32 × St × St)) =>
    (if t1 = 318 then
    K5 ()
    else
    (if t1 = 319 then
    K5 ()
    else
    bd (m_X6_readSum n v0 v1 v2) (fun t8 =>
    (if t8.1 = 0 then
    some (0, t8.2.1, t8.2.2)
    else
    bd (m_X10_code n v1 (t8.2.1 2 0)) (fun t9 =>
    jn (fun (t10 : Unit) =>
    nm (su t8.2.1 2 0 ((t8.2.1 2 0) + 1)) (fun u11 =>
    bd (m_X6_readSum n u11 v1 t8.2.2) (fun t12 =>
    (if t12.1 = 0 then
    some (0, t12.2.1, t12.2.2)
    else
    bd (m_X5_put n t12.2.2 (-t9)) (fun t13 =>
    some (1, t12.2.1, t13)))))) (fun (K10 : Unit → Option (Int32 × St × St)) =>
    (if t9 = 60 then
    K10 ()
    else
    (if t9 = 62 then
    K10 ()
    else
    some (0, t8.2.1, t8.2.2))))))))))))))
  | d + 1, _, v0, v1, v2, x1, x2 =>
    nm (su v0 2 0 ((v0 2 0) + 1)) (fun u1 =>
    (if x1 = 40 then
    bd (G_X6_readAny n d 0 u1 v1 v2 x2 0) (fun t4 =>
    jn (fun (t5 : St) =>
    some (0, t5, t4.2.2)) (fun (K5 : St → Option (Int32 × St × St)) =>
    (if t4.1 = 0 then
    K5 t4.2.1
    else
    bd (m_X9_skip_X6 n t4.2.1 v1 t4.2.2 41) (fun t6 =>
    (if t6.1 = 0 then
    K5 t6.2
    else
    some (1, t6.2, t4.2.2))))))
    else
    bd (G_X6_readAny n d 2 u1 v1 v2 x2 0) (fun t2 =>
    (if t2.1 = 0 then
    some (0, t2.2.1, t2.2.2)
    else
    bd (m_X5_put n t2.2.2 (-317)) (fun t3 =>
    some (1, t2.2.1, t3))))))
set_option maxHeartbeats 4000000 in
set_option maxRecDepth 100000 in
theorem c_G_X6_readAny (l : Launch) (D : va_G) (y : Nat → ClassId) (ek : EK) (n : Nat) : ∀ d : Nat, (∀ (a0 a1 a2 : Nat → Nat) (v0 v1 v2 : St) (x1 : Int32) (res : Int32 × St × St), G_X6_readAny n d 0 v0 v1 v2 x1 0 = some res → CI l yX6_readAny wX6_readAny { frames := 1 * d + 2, cells := 0, slots := 0, locals := 23 * d + 44 } D y ek [.ref (a0 0), .int x1] [bX6 y a0 (a1 0) (a2 0) v0, bX10 y a1 v1, bX5 y a2 v2] (res.1) [bX6 y a0 (a1 0) (a2 0) res.2.1, bX10 y a1 v1, bX5 y a2 res.2.2] 0 0) ∧ (∀ (a0 a1 a2 : Nat → Nat) (v0 v1 v2 : St) (x1 : Int32) (res : Int32 × St × St), G_X6_readAny n d 1 v0 v1 v2 x1 0 = some res → CI l yX6_readAll wX6_readAll { frames := 1 * d + 2, cells := 0, slots := 0, locals := 23 * d + 44 } D y ek [.ref (a0 0), .int x1] [bX6 y a0 (a1 0) (a2 0) v0, bX10 y a1 v1, bX5 y a2 v2] (res.1) [bX6 y a0 (a1 0) (a2 0) res.2.1, bX10 y a1 v1, bX5 y a2 res.2.2] 0 0) ∧ (∀ (a0 a1 a2 : Nat → Nat) (v0 v1 v2 : St) (x1 : Int32) (res : Int32 × St × St), G_X6_readAny n d 2 v0 v1 v2 x1 0 = some res → CI l yX6_readAtom wX6_readAtom { frames := 1 * d + 2, cells := 0, slots := 0, locals := 23 * d + 44 } D y ek [.ref (a0 0), .int x1] [bX6 y a0 (a1 0) (a2 0) v0, bX10 y a1 v1, bX5 y a2 v2] (res.1) [bX6 y a0 (a1 0) (a2 0) res.2.1, bX10 y a1 v1, bX5 y a2 res.2.2] 0 0) ∧ (∀ (a0 a1 a2 : Nat → Nat) (v0 v1 v2 : St) (x1 : Int32) (x2 : Int32) (res : Int32 × St × St), G_X6_readAny n d 3 v0 v1 v2 x1 x2 = some res → CI l yX6_readDeeper wX6_readDeeper { frames := 1 * d + 2, cells := 0, slots := 0, locals := 23 * d + 44 } D y ek [.ref (a0 0), .int x1, .int x2] [bX6 y a0 (a1 0) (a2 0) v0, bX10 y a1 v1, bX5 y a2 v2] (res.1) [bX6 y a0 (a1 0) (a2 0) res.2.1, bX10 y a1 v1, bX5 y a2 res.2.2] 0 0) := by
  intro d
  induction d with
  | zero =>
    refine ⟨?_, ?_, ?_, ?_⟩
    · intro a0 a1 a2 v0 v1 v2 x1 res hf
      cases hf
    · intro a0 a1 a2 v0 v1 v2 x1 res hf
      cases hf
    · intro a0 a1 a2 v0 v1 v2 x1 res hf
      cases hf
    · intro a0 a1 a2 v0 v1 v2 x1 x2 res hf
      cases hf
  | succ d ih =>
    obtain ⟨gh0, gh1, gh2, gh3⟩ := ih
    refine ⟨?_, ?_, ?_, ?_⟩
    · intro a0 a1 a2 v0 v1 v2 x1 res hf
      unfold G_X6_readAny at hf
      refine ci_of (cc := cX6_readAny) (maxL := 3) (by decide) rfl rfl (Nat.le_of_ble_eq_true rfl) ?_
      intro p e s m below meth c Q A F hret
      refine a_lv (lv' := [(0, .ref (a0 0)), (1, .int x1)]) rfl ?_
      refine a_aloadn (pc := 0) (j := 0) F dX6_readAny_0 rfl rfl ?_
      refine a_iloadn (pc := 1) (j := 1) F dX6_readAny_1 rfl rfl ?_
      obtain ⟨t1, ht1, hf⟩ := bd_some hf
      refine a_callV (pc := 2) (bs' := [bX6 y a0 (a1 0) (a2 0) t1.2.1, bX10 y a1 v1, bX5 y a2 t1.2.2]) (kb := 0) (j := 0) F [0, 1, 2] (gh1 a0 a1 a2 _ _ _ _ _ ht1) (cwV 1 F.1.2.2.2.2 (gV q4_20 q4_22 qs_12 q1_8 q4_23) rfl rfl rfl (by decide +kernel) ⟨by show (1 * d + 2) + 1 ≤ 1 * (d + 1) + 2; omega, by show 8 + (3 + 11) + (23 * d + 44) ≤ 23 * (d + 1) + 44; omega⟩) rfl rfl rfl rfl (by decide) rfl rfl rfl rfl rfl rfl (Nat.le_of_ble_eq_true rfl) ⟨Nat.zero_le _, Nat.zero_le _⟩ dX6_readAny_2 ?_
      refine a_if_ne (pc := 5) (tgt := 10) F dX6_readAny_5 (by decide) (fun h => ?_) (fun h => ?_)
      · replace hf := it_neg h hf
        refine a_iconst (pc := 10) F dX6_readAny_10 kc_0 ?_
        refine a_istoren (pc := 11) (lv' := [(0, .ref (a0 0)), (1, .int x1), (2, .int 0)]) F [1, 2, 0] dX6_readAny_11 rfl (by decide) rfl ?_
        refine a_jn 55 (fun (t2 : St × St) => []) (fun (t2 : St × St) => []) (fun (t2 : St × St) => [bX6 y a0 (a1 0) (a2 0) t2.1, bX10 y a1 v1, bX5 y a2 t2.2]) hf (fun t2 hf => ?_) (fun K2 hK2 hf => ?_)
        · try dsimp only at hf ⊢
          refine a_iconst (pc := 55) F dX6_readAny_55 kc_1 ?_
          obtain rfl := Option.some.inj hf
          exact hret _ _ _ _ (Nat.zero_le _) (Nat.zero_le _) (z_nar (Or.inr rfl)) dX6_readAny_56
        · try dsimp only at hf
          refine a_loop 12 (fun (x3l : Int32 × St × St) => [(0, .ref (a0 0)), (1, .int x1), (2, .int x3l.1)]) (fun (x3l : Int32 × St × St) => [bX6 y a0 (a1 0) (a2 0) x3l.2.1, bX10 y a1 v1, bX5 y a2 x3l.2.2]) (fun rc3 x3l ih3 hf => ?_) hf rfl rfl
          try dsimp only at hf ⊢
          refine a_iloadn (pc := 12) (j := 2) F dX6_readAny_12 rfl rfl ?_
          refine a_sipush (pc := 13) F dX6_readAny_13 ks_400 ?_
          refine a_icmp_ge (pc := 16) (tgt := 55) F dX6_readAny_16 (by decide) (fun h => ?_) (fun h => ?_)
          · replace hf := it_pos h hf
            refine a_sub [] rfl ?_
            exact hK2 (x3l.2.1, x3l.2.2) hf
          · replace hf := it_neg h hf
            refine a_aloadn (pc := 19) (j := 0) F dX6_readAny_19 rfl rfl ?_
            refine a_sipush (pc := 20) F dX6_readAny_20 ks_315 ?_
            obtain ⟨t4, ht4, hf⟩ := bd_some hf
            refine a_callU (pc := 23) (bs' := [bX6 y a0 (a1 0) (a2 0) t4.2, bX10 y a1 v1, bX5 y a2 x3l.2.2]) (kb := 0) (j := 0) F [0, 1, 2] (c_X9_skip_X6 l D y ek n a0 a1 a2 _ _ _ _ _ ht4) (va_cwU 1 F.1.2.2.2.2 (gU q4_13 q4_14 q4_15 q3_220 q1_6 q3_221) rfl rfl rfl rfl (by decide +kernel) ⟨by show 1 ≤ 1 * (d + 1) + 2; omega, by show 21 ≤ 23 * (d + 1) + 44; omega⟩) rfl rfl rfl rfl (by decide) rfl rfl rfl rfl rfl rfl (Nat.le_of_ble_eq_true rfl) ⟨Nat.zero_le _, Nat.zero_le _⟩ dX6_readAny_23 ?_
            refine a_if_eq (pc := 26) (tgt := 55) F dX6_readAny_26 (by decide) (fun h => ?_) (fun h => ?_)
            · replace hf := it_pos h hf
              refine a_sub [] rfl ?_
              exact hK2 (t4.2, x3l.2.2) hf
            · replace hf := it_neg h hf
              refine a_aloadn (pc := 29) (j := 0) F dX6_readAny_29 rfl rfl ?_
              refine a_iloadn (pc := 30) (j := 1) F dX6_readAny_30 rfl rfl ?_
              obtain ⟨t5, ht5, hf⟩ := bd_some hf
              refine a_callV (pc := 31) (bs' := [bX6 y a0 (a1 0) (a2 0) t5.2.1, bX10 y a1 v1, bX5 y a2 t5.2.2]) (kb := 0) (j := 0) F [0, 1, 2] (gh1 a0 a1 a2 _ _ _ _ _ ht5) (cwV 1 F.1.2.2.2.2 (gV q4_20 q4_22 qs_12 q1_8 q4_23) rfl rfl rfl (by decide +kernel) ⟨by show (1 * d + 2) + 1 ≤ 1 * (d + 1) + 2; omega, by show 8 + (3 + 11) + (23 * d + 44) ≤ 23 * (d + 1) + 44; omega⟩) rfl rfl rfl rfl (by decide) rfl rfl rfl rfl rfl rfl (Nat.le_of_ble_eq_true rfl) ⟨Nat.zero_le _, Nat.zero_le _⟩ dX6_readAny_31 ?_
              refine a_if_ne (pc := 34) (tgt := 39) F dX6_readAny_34 (by decide) (fun h => ?_) (fun h => ?_)
              · replace hf := it_neg h hf
                refine a_aloadn (pc := 39) (j := 0) F dX6_readAny_39 rfl rfl ?_
                refine a_get (pc := 40) (kb := 0) (j := 0) (f := 3) F iW_X6 rfl rfl rfl (by decide) (tl q2_2) (fun _ h => h) rfl dX6_readAny_40 ?_
                refine a_sipush (pc := 43) F dX6_readAny_43 ks_m315 ?_
                obtain ⟨t6, ht6, hf⟩ := bd_some hf
                refine a_callVv (pc := 46) (bs' := [bX6 y a0 (a1 0) (a2 0) t5.2.1, bX10 y a1 v1, bX5 y a2 t6]) (kb := 2) (j := 0) F [2] (c_X5_put l D y ek n a2 _ _ _ ht6) (cwV 1 F.1.2.2.2.2 (gV q4_32 q4_33 q4_34 q1_4 q4_35) rfl rfl rfl (by decide +kernel) ⟨by show 1 ≤ 1 * (d + 1) + 2; omega, by show 21 ≤ 23 * (d + 1) + 44; omega⟩) rfl rfl rfl rfl (by decide) rfl rfl rfl rfl rfl rfl (Nat.le_of_ble_eq_true rfl) ⟨Nat.zero_le _, Nat.zero_le _⟩ dX6_readAny_46 ?_
                refine a_iinc (pc := 49) (j := 2) (v := (x3l.1 + 1)) (lv' := [(0, .ref (a0 0)), (1, .int x1), (2, .int (x3l.1 + 1))]) F [1, 2, 0] dX6_readAny_49 rfl ki_1 (by decide) rfl ?_
                refine a_goto (pc := 52) (tgt := 12) F dX6_readAny_52 (by decide) ?_
                exact ih3 ((x3l.1 + 1), t5.2.1, t6) hf
              · replace hf := it_pos h hf
                refine a_iconst (pc := 37) F dX6_readAny_37 kc_0 ?_
                obtain rfl := Option.some.inj hf
                exact hret _ _ _ _ (Nat.zero_le _) (Nat.zero_le _) (z_nar (Or.inl rfl)) dX6_readAny_38
      · replace hf := it_pos h hf
        refine a_iconst (pc := 8) F dX6_readAny_8 kc_0 ?_
        obtain rfl := Option.some.inj hf
        exact hret _ _ _ _ (Nat.zero_le _) (Nat.zero_le _) (z_nar (Or.inl rfl)) dX6_readAny_9
    · intro a0 a1 a2 v0 v1 v2 x1 res hf
      unfold G_X6_readAny at hf
      refine ci_of (cc := cX6_readAll) (maxL := 3) (by decide) rfl rfl (Nat.le_of_ble_eq_true rfl) ?_
      intro p e s m below meth c Q A F hret
      refine a_lv (lv' := [(0, .ref (a0 0)), (1, .int x1)]) rfl ?_
      refine a_aloadn (pc := 0) (j := 0) F dX6_readAll_0 rfl rfl ?_
      refine a_iloadn (pc := 1) (j := 1) F dX6_readAll_1 rfl rfl ?_
      obtain ⟨t1, ht1, hf⟩ := bd_some hf
      refine a_callV (pc := 2) (bs' := [bX6 y a0 (a1 0) (a2 0) t1.2.1, bX10 y a1 v1, bX5 y a2 t1.2.2]) (kb := 0) (j := 0) F [0, 1, 2] (gh2 a0 a1 a2 _ _ _ _ _ ht1) (cwV 1 F.1.2.2.2.2 (gV q4_24 q4_26 qs_13 q1_8 q4_27) rfl rfl rfl (by decide +kernel) ⟨by show (1 * d + 2) + 1 ≤ 1 * (d + 1) + 2; omega, by show 8 + (4 + 11) + (23 * d + 44) ≤ 23 * (d + 1) + 44; omega⟩) rfl rfl rfl rfl (by decide) rfl rfl rfl rfl rfl rfl (Nat.le_of_ble_eq_true rfl) ⟨Nat.zero_le _, Nat.zero_le _⟩ dX6_readAll_2 ?_
      refine a_if_ne (pc := 5) (tgt := 10) F dX6_readAll_5 (by decide) (fun h => ?_) (fun h => ?_)
      · replace hf := it_neg h hf
        refine a_iconst (pc := 10) F dX6_readAll_10 kc_0 ?_
        refine a_istoren (pc := 11) (lv' := [(0, .ref (a0 0)), (1, .int x1), (2, .int 0)]) F [1, 2, 0] dX6_readAll_11 rfl (by decide) rfl ?_
        refine a_jn 55 (fun (t2 : St × St) => []) (fun (t2 : St × St) => []) (fun (t2 : St × St) => [bX6 y a0 (a1 0) (a2 0) t2.1, bX10 y a1 v1, bX5 y a2 t2.2]) hf (fun t2 hf => ?_) (fun K2 hK2 hf => ?_)
        · try dsimp only at hf ⊢
          refine a_iconst (pc := 55) F dX6_readAll_55 kc_1 ?_
          obtain rfl := Option.some.inj hf
          exact hret _ _ _ _ (Nat.zero_le _) (Nat.zero_le _) (z_nar (Or.inr rfl)) dX6_readAll_56
        · try dsimp only at hf
          refine a_loop 12 (fun (x3l : Int32 × St × St) => [(0, .ref (a0 0)), (1, .int x1), (2, .int x3l.1)]) (fun (x3l : Int32 × St × St) => [bX6 y a0 (a1 0) (a2 0) x3l.2.1, bX10 y a1 v1, bX5 y a2 x3l.2.2]) (fun rc3 x3l ih3 hf => ?_) hf rfl rfl
          try dsimp only at hf ⊢
          refine a_iloadn (pc := 12) (j := 2) F dX6_readAll_12 rfl rfl ?_
          refine a_sipush (pc := 13) F dX6_readAll_13 ks_400 ?_
          refine a_icmp_ge (pc := 16) (tgt := 55) F dX6_readAll_16 (by decide) (fun h => ?_) (fun h => ?_)
          · replace hf := it_pos h hf
            refine a_sub [] rfl ?_
            exact hK2 (x3l.2.1, x3l.2.2) hf
          · replace hf := it_neg h hf
            refine a_aloadn (pc := 19) (j := 0) F dX6_readAll_19 rfl rfl ?_
            refine a_sipush (pc := 20) F dX6_readAll_20 ks_316 ?_
            obtain ⟨t4, ht4, hf⟩ := bd_some hf
            refine a_callU (pc := 23) (bs' := [bX6 y a0 (a1 0) (a2 0) t4.2, bX10 y a1 v1, bX5 y a2 x3l.2.2]) (kb := 0) (j := 0) F [0, 1, 2] (c_X9_skip_X6 l D y ek n a0 a1 a2 _ _ _ _ _ ht4) (va_cwU 1 F.1.2.2.2.2 (gU q4_13 q4_14 q4_15 q3_220 q1_6 q3_221) rfl rfl rfl rfl (by decide +kernel) ⟨by show 1 ≤ 1 * (d + 1) + 2; omega, by show 21 ≤ 23 * (d + 1) + 44; omega⟩) rfl rfl rfl rfl (by decide) rfl rfl rfl rfl rfl rfl (Nat.le_of_ble_eq_true rfl) ⟨Nat.zero_le _, Nat.zero_le _⟩ dX6_readAll_23 ?_
            refine a_if_eq (pc := 26) (tgt := 55) F dX6_readAll_26 (by decide) (fun h => ?_) (fun h => ?_)
            · replace hf := it_pos h hf
              refine a_sub [] rfl ?_
              exact hK2 (t4.2, x3l.2.2) hf
            · replace hf := it_neg h hf
              refine a_aloadn (pc := 29) (j := 0) F dX6_readAll_29 rfl rfl ?_
              refine a_iloadn (pc := 30) (j := 1) F dX6_readAll_30 rfl rfl ?_
              obtain ⟨t5, ht5, hf⟩ := bd_some hf
              refine a_callV (pc := 31) (bs' := [bX6 y a0 (a1 0) (a2 0) t5.2.1, bX10 y a1 v1, bX5 y a2 t5.2.2]) (kb := 0) (j := 0) F [0, 1, 2] (gh2 a0 a1 a2 _ _ _ _ _ ht5) (cwV 1 F.1.2.2.2.2 (gV q4_24 q4_26 qs_13 q1_8 q4_27) rfl rfl rfl (by decide +kernel) ⟨by show (1 * d + 2) + 1 ≤ 1 * (d + 1) + 2; omega, by show 8 + (4 + 11) + (23 * d + 44) ≤ 23 * (d + 1) + 44; omega⟩) rfl rfl rfl rfl (by decide) rfl rfl rfl rfl rfl rfl (Nat.le_of_ble_eq_true rfl) ⟨Nat.zero_le _, Nat.zero_le _⟩ dX6_readAll_31 ?_
              refine a_if_ne (pc := 34) (tgt := 39) F dX6_readAll_34 (by decide) (fun h => ?_) (fun h => ?_)
              · replace hf := it_neg h hf
                refine a_aloadn (pc := 39) (j := 0) F dX6_readAll_39 rfl rfl ?_
                refine a_get (pc := 40) (kb := 0) (j := 0) (f := 3) F iW_X6 rfl rfl rfl (by decide) (tl q2_2) (fun _ h => h) rfl dX6_readAll_40 ?_
                refine a_sipush (pc := 43) F dX6_readAll_43 ks_m316 ?_
                obtain ⟨t6, ht6, hf⟩ := bd_some hf
                refine a_callVv (pc := 46) (bs' := [bX6 y a0 (a1 0) (a2 0) t5.2.1, bX10 y a1 v1, bX5 y a2 t6]) (kb := 2) (j := 0) F [2] (c_X5_put l D y ek n a2 _ _ _ ht6) (cwV 1 F.1.2.2.2.2 (gV q4_32 q4_33 q4_34 q1_4 q4_35) rfl rfl rfl (by decide +kernel) ⟨by show 1 ≤ 1 * (d + 1) + 2; omega, by show 21 ≤ 23 * (d + 1) + 44; omega⟩) rfl rfl rfl rfl (by decide) rfl rfl rfl rfl rfl rfl (Nat.le_of_ble_eq_true rfl) ⟨Nat.zero_le _, Nat.zero_le _⟩ dX6_readAll_46 ?_
                refine a_iinc (pc := 49) (j := 2) (v := (x3l.1 + 1)) (lv' := [(0, .ref (a0 0)), (1, .int x1), (2, .int (x3l.1 + 1))]) F [1, 2, 0] dX6_readAll_49 rfl ki_1 (by decide) rfl ?_
                refine a_goto (pc := 52) (tgt := 12) F dX6_readAll_52 (by decide) ?_
                exact ih3 ((x3l.1 + 1), t5.2.1, t6) hf
              · replace hf := it_pos h hf
                refine a_iconst (pc := 37) F dX6_readAll_37 kc_0 ?_
                obtain rfl := Option.some.inj hf
                exact hret _ _ _ _ (Nat.zero_le _) (Nat.zero_le _) (z_nar (Or.inl rfl)) dX6_readAll_38
      · replace hf := it_pos h hf
        refine a_iconst (pc := 8) F dX6_readAll_8 kc_0 ?_
        obtain rfl := Option.some.inj hf
        exact hret _ _ _ _ (Nat.zero_le _) (Nat.zero_le _) (z_nar (Or.inl rfl)) dX6_readAll_9
    · intro a0 a1 a2 v0 v1 v2 x1 res hf
      unfold G_X6_readAny at hf
      refine ci_of (cc := cX6_readAtom) (maxL := 4) (by decide) rfl rfl (Nat.le_of_ble_eq_true rfl) ?_
      intro p e s m below meth c Q A F hret
      refine a_lv (lv' := [(0, .ref (a0 0)), (1, .int x1)]) rfl ?_
      refine a_aloadn (pc := 0) (j := 0) F dX6_readAtom_0 rfl rfl ?_
      refine a_get (pc := 1) (kb := 0) (j := 0) (f := 0) F iW_X6 rfl rfl rfl (by decide) (tl q1_219) (u_same (F.1.2.2.2.2 _ (tl q1_220))) rfl dX6_readAtom_1 ?_
      refine a_aloadn (pc := 4) (j := 0) F dX6_readAtom_4 rfl rfl ?_
      refine a_get (pc := 5) (kb := 0) (j := 0) (f := 2) F iW_X6 rfl rfl rfl (by decide) (tl q1_225) (u_same (F.1.2.2.2.2 _ (tl q1_226))) rfl dX6_readAtom_5 ?_
      obtain ⟨t1, ht1, hf⟩ := bd_some hf
      refine a_callV (pc := 8) (bs' := [bX6 y a0 (a1 0) (a2 0) v0, bX10 y a1 v1, bX5 y a2 v2]) (kb := 1) (j := 0) F [1] (c_X10_code l D y ek n a1 _ _ _ ht1) (cwV 1 F.1.2.2.2.2 (gV q4_9 q3_192 q3_193 q1_2 q3_194) rfl rfl rfl (by decide +kernel) ⟨by show 1 ≤ 1 * (d + 1) + 2; omega, by show 21 ≤ 23 * (d + 1) + 44; omega⟩) rfl rfl rfl rfl (by decide) rfl rfl rfl rfl rfl rfl (Nat.le_of_ble_eq_true rfl) ⟨Nat.zero_le _, Nat.zero_le _⟩ dX6_readAtom_8 ?_
      refine a_istoren (pc := 11) (lv' := [(0, .ref (a0 0)), (1, .int x1), (2, .int t1)]) F [1, 2, 0] dX6_readAtom_11 rfl (by decide) rfl ?_
      refine a_iloadn (pc := 12) (j := 2) F dX6_readAtom_12 rfl rfl ?_
      refine a_sipush (pc := 13) F dX6_readAtom_13 ks_317 ?_
      refine a_jn 25 (fun (t2 : Unit) => [(0, .ref (a0 0)), (1, .int x1), (2, .int t1)]) (fun (t2 : Unit) => []) (fun (t2 : Unit) => [bX6 y a0 (a1 0) (a2 0) v0, bX10 y a1 v1, bX5 y a2 v2]) hf (fun t2 hf => ?_) (fun K2 hK2 hf => ?_)
      · try dsimp only at hf ⊢
        refine a_iloadn (pc := 25) (j := 1) F dX6_readAtom_25 rfl rfl ?_
        refine a_bipush (pc := 26) F dX6_readAtom_26 kb_6 ?_
        refine a_jn 46 (fun (t3 : St × St) => []) (fun (t3 : St × St) => []) (fun (t3 : St × St) => [bX6 y a0 (a1 0) (a2 0) t3.1, bX10 y a1 v1, bX5 y a2 t3.2]) hf (fun t3 hf => ?_) (fun K3 hK3 hf => ?_)
        · try dsimp only at hf ⊢
          refine a_iconst (pc := 46) F dX6_readAtom_46 kc_0 ?_
          obtain rfl := Option.some.inj hf
          exact hret _ _ _ _ (Nat.zero_le _) (Nat.zero_le _) (z_nar (Or.inl rfl)) dX6_readAtom_47
        · try dsimp only at hf
          refine a_icmp_ge (pc := 28) (tgt := 46) F dX6_readAtom_28 (by decide) (fun h => ?_) (fun h => ?_)
          · replace hf := it_pos h hf
            refine a_sub [] rfl ?_
            exact hK3 (v0, v2) hf
          · replace hf := it_neg h hf
            refine a_aloadn (pc := 31) (j := 0) F dX6_readAtom_31 rfl rfl ?_
            refine a_iloadn (pc := 32) (j := 2) F dX6_readAtom_32 rfl rfl ?_
            refine a_iloadn (pc := 33) (j := 1) F dX6_readAtom_33 rfl rfl ?_
            refine a_iconst (pc := 34) F dX6_readAtom_34 kc_1 ?_
            refine a_iadd (pc := 35) F dX6_readAtom_35 ?_
            obtain ⟨t4, ht4, hf⟩ := bd_some hf
            refine a_callV (pc := 36) (bs' := [bX6 y a0 (a1 0) (a2 0) t4.2.1, bX10 y a1 v1, bX5 y a2 t4.2.2]) (kb := 0) (j := 0) F [0, 1, 2] (gh3 a0 a1 a2 _ _ _ _ _ _ ht4) (cwV 2 F.1.2.2.2.2 (gV q4_28 q4_30 qs_14 q1_8 q4_31) rfl rfl rfl (by decide +kernel) ⟨by show (1 * d + 2) + 1 ≤ 1 * (d + 1) + 2; omega, by show 8 + (3 + 11) + (23 * d + 44) ≤ 23 * (d + 1) + 44; omega⟩) rfl rfl rfl rfl (by decide) rfl rfl rfl rfl rfl rfl (Nat.le_of_ble_eq_true rfl) ⟨Nat.zero_le _, Nat.zero_le _⟩ dX6_readAtom_36 ?_
            refine a_if_eq (pc := 39) (tgt := 46) F dX6_readAtom_39 (by decide) (fun h => ?_) (fun h => ?_)
            · replace hf := it_pos h hf
              refine a_sub [] rfl ?_
              exact hK3 (t4.2.1, t4.2.2) hf
            · replace hf := it_neg h hf
              refine a_iconst (pc := 42) F dX6_readAtom_42 kc_1 ?_
              refine a_goto (pc := 43) (tgt := 47) F dX6_readAtom_43 (by decide) ?_
              obtain rfl := Option.some.inj hf
              exact hret _ _ _ _ (Nat.zero_le _) (Nat.zero_le _) (z_nar (Or.inr rfl)) dX6_readAtom_47
      · try dsimp only at hf
        refine a_icmp_eq (pc := 16) (tgt := 25) F dX6_readAtom_16 (by decide) (fun h => ?_) (fun h => ?_)
        · replace hf := it_pos h hf
          exact hK2 () hf
        · replace hf := it_neg h hf
          refine a_iloadn (pc := 19) (j := 2) F dX6_readAtom_19 rfl rfl ?_
          refine a_bipush (pc := 20) F dX6_readAtom_20 kb_40 ?_
          refine a_icmp_ne (pc := 22) (tgt := 48) F dX6_readAtom_22 (by decide) (fun h => ?_) (fun h => ?_)
          · replace hf := it_neg h hf
            refine a_iloadn (pc := 48) (j := 2) F dX6_readAtom_48 rfl rfl ?_
            refine a_sipush (pc := 49) F dX6_readAtom_49 ks_318 ?_
            refine a_jn 62 (fun (t5 : Unit) => [(0, .ref (a0 0)), (2, .int t1)]) (fun (t5 : Unit) => []) (fun (t5 : Unit) => [bX6 y a0 (a1 0) (a2 0) v0, bX10 y a1 v1, bX5 y a2 v2]) hf (fun t5 hf => ?_) (fun K5 hK5 hf => ?_)
            · try dsimp only at hf ⊢
              refine a_aloadn (pc := 62) (j := 0) F dX6_readAtom_62 rfl rfl ?_
              refine a_dup (pc := 63) F dX6_readAtom_63 rfl ?_
              refine a_get (pc := 64) (kb := 0) (j := 0) (f := 2) F iW_X6 rfl rfl rfl (by decide) (tl q1_225) (u_same (F.1.2.2.2.2 _ (tl q1_226))) rfl dX6_readAtom_64 ?_
              refine a_iconst (pc := 67) F dX6_readAtom_67 kc_1 ?_
              refine a_iadd (pc := 68) F dX6_readAtom_68 ?_
              obtain ⟨u6, eu6, hf⟩ := nm_some hf
              refine a_put (pc := 69) (kb := 0) (j := 0) (f := 2) (ty := .int) (bs' := [bX6 y a0 (a1 0) (a2 0) u6, bX10 y a1 v1, bX5 y a2 v2]) F iW_X6 rfl rfl rfl (by decide) (tl q1_225) (u_same (F.1.2.2.2.2 _ (tl q1_226))) tyX6 tyX6_ok nmX6 rfl rfl rfl rfl (Nat.le_of_ble_eq_true rfl) (by rw [eu6]; rfl) dX6_readAtom_69 ?_
              refine a_aloadn (pc := 72) (j := 0) F dX6_readAtom_72 rfl rfl ?_
              refine a_get (pc := 73) (kb := 0) (j := 0) (f := 3) F iW_X6 rfl rfl rfl (by decide) (tl q2_2) (fun _ h => h) rfl dX6_readAtom_73 ?_
              refine a_iloadn (pc := 76) (j := 1) F dX6_readAtom_76 rfl rfl ?_
              refine a_ineg (pc := 77) F dX6_readAtom_77 ?_
              obtain ⟨t7, ht7, hf⟩ := bd_some hf
              refine a_callVv (pc := 78) (bs' := [bX6 y a0 (a1 0) (a2 0) u6, bX10 y a1 v1, bX5 y a2 t7]) (kb := 2) (j := 0) F [2] (c_X5_put l D y ek n a2 _ _ _ ht7) (cwV 1 F.1.2.2.2.2 (gV q4_32 q4_33 q4_34 q1_4 q4_35) rfl rfl rfl (by decide +kernel) ⟨by show 1 ≤ 1 * (d + 1) + 2; omega, by show 21 ≤ 23 * (d + 1) + 44; omega⟩) rfl rfl rfl rfl (by decide) rfl rfl rfl rfl rfl rfl (Nat.le_of_ble_eq_true rfl) ⟨Nat.zero_le _, Nat.zero_le _⟩ dX6_readAtom_78 ?_
              refine a_iconst (pc := 81) F dX6_readAtom_81 kc_1 ?_
              obtain rfl := Option.some.inj hf
              exact hret _ _ _ _ (Nat.zero_le _) (Nat.zero_le _) (z_nar (Or.inr rfl)) dX6_readAtom_82
            · try dsimp only at hf
              refine a_icmp_eq (pc := 52) (tgt := 62) F dX6_readAtom_52 (by decide) (fun h => ?_) (fun h => ?_)
              · replace hf := it_pos h hf
                refine a_sub [0, 2] rfl ?_
                exact hK5 () hf
              · replace hf := it_neg h hf
                refine a_iloadn (pc := 55) (j := 2) F dX6_readAtom_55 rfl rfl ?_
                refine a_sipush (pc := 56) F dX6_readAtom_56 ks_319 ?_
                refine a_icmp_ne (pc := 59) (tgt := 83) F dX6_readAtom_59 (by decide) (fun h => ?_) (fun h => ?_)
                · replace hf := it_neg h hf
                  refine a_aloadn (pc := 83) (j := 0) F dX6_readAtom_83 rfl rfl ?_
                  obtain ⟨t8, ht8, hf⟩ := bd_some hf
                  refine a_callV (pc := 84) (bs' := [bX6 y a0 (a1 0) (a2 0) t8.2.1, bX10 y a1 v1, bX5 y a2 t8.2.2]) (kb := 0) (j := 0) F [0, 1, 2] (c_X6_readSum l D y ek n a0 a1 a2 _ _ _ _ ht8) (cwV 0 F.1.2.2.2.2 (gV q4_36 q4_38 qs_15 q1_8 q4_39) rfl rfl rfl (by decide +kernel) ⟨by show 2 ≤ 1 * (d + 1) + 2; omega, by show 44 ≤ 23 * (d + 1) + 44; omega⟩) rfl rfl rfl rfl (by decide) rfl rfl rfl rfl rfl rfl (Nat.le_of_ble_eq_true rfl) ⟨Nat.zero_le _, Nat.zero_le _⟩ dX6_readAtom_84 ?_
                  refine a_if_ne (pc := 87) (tgt := 92) F dX6_readAtom_87 (by decide) (fun h => ?_) (fun h => ?_)
                  · replace hf := it_neg h hf
                    refine a_aloadn (pc := 92) (j := 0) F dX6_readAtom_92 rfl rfl ?_
                    refine a_get (pc := 93) (kb := 0) (j := 0) (f := 0) F iW_X6 rfl rfl rfl (by decide) (tl q1_219) (u_same (F.1.2.2.2.2 _ (tl q1_220))) rfl dX6_readAtom_93 ?_
                    refine a_aloadn (pc := 96) (j := 0) F dX6_readAtom_96 rfl rfl ?_
                    refine a_get (pc := 97) (kb := 0) (j := 0) (f := 2) F iW_X6 rfl rfl rfl (by decide) (tl q1_225) (u_same (F.1.2.2.2.2 _ (tl q1_226))) rfl dX6_readAtom_97 ?_
                    obtain ⟨t9, ht9, hf⟩ := bd_some hf
                    refine a_callV (pc := 100) (bs' := [bX6 y a0 (a1 0) (a2 0) t8.2.1, bX10 y a1 v1, bX5 y a2 t8.2.2]) (kb := 1) (j := 0) F [1] (c_X10_code l D y ek n a1 _ _ _ ht9) (cwV 1 F.1.2.2.2.2 (gV q4_9 q3_192 q3_193 q1_2 q3_194) rfl rfl rfl (by decide +kernel) ⟨by show 1 ≤ 1 * (d + 1) + 2; omega, by show 21 ≤ 23 * (d + 1) + 44; omega⟩) rfl rfl rfl rfl (by decide) rfl rfl rfl rfl rfl rfl (Nat.le_of_ble_eq_true rfl) ⟨Nat.zero_le _, Nat.zero_le _⟩ dX6_readAtom_100 ?_
                    refine a_istoren (pc := 103) (lv' := [(0, .ref (a0 0)), (1, .int x1), (2, .int t1), (3, .int t9)]) F [1, 2, 3, 0] dX6_readAtom_103 rfl (by decide) rfl ?_
                    refine a_iloadn (pc := 104) (j := 3) F dX6_readAtom_104 rfl rfl ?_
                    refine a_bipush (pc := 105) F dX6_readAtom_105 kb_60 ?_
                    refine a_jn 118 (fun (t10 : Unit) => [(0, .ref (a0 0)), (3, .int t9)]) (fun (t10 : Unit) => []) (fun (t10 : Unit) => [bX6 y a0 (a1 0) (a2 0) t8.2.1, bX10 y a1 v1, bX5 y a2 t8.2.2]) hf (fun t10 hf => ?_) (fun K10 hK10 hf => ?_)
                    · try dsimp only at hf ⊢
                      refine a_aloadn (pc := 118) (j := 0) F dX6_readAtom_118 rfl rfl ?_
                      refine a_dup (pc := 119) F dX6_readAtom_119 rfl ?_
                      refine a_get (pc := 120) (kb := 0) (j := 0) (f := 2) F iW_X6 rfl rfl rfl (by decide) (tl q1_225) (u_same (F.1.2.2.2.2 _ (tl q1_226))) rfl dX6_readAtom_120 ?_
                      refine a_iconst (pc := 123) F dX6_readAtom_123 kc_1 ?_
                      refine a_iadd (pc := 124) F dX6_readAtom_124 ?_
                      obtain ⟨u11, eu11, hf⟩ := nm_some hf
                      refine a_put (pc := 125) (kb := 0) (j := 0) (f := 2) (ty := .int) (bs' := [bX6 y a0 (a1 0) (a2 0) u11, bX10 y a1 v1, bX5 y a2 t8.2.2]) F iW_X6 rfl rfl rfl (by decide) (tl q1_225) (u_same (F.1.2.2.2.2 _ (tl q1_226))) tyX6 tyX6_ok nmX6 rfl rfl rfl rfl (Nat.le_of_ble_eq_true rfl) (by rw [eu11]; rfl) dX6_readAtom_125 ?_
                      refine a_aloadn (pc := 128) (j := 0) F dX6_readAtom_128 rfl rfl ?_
                      obtain ⟨t12, ht12, hf⟩ := bd_some hf
                      refine a_callV (pc := 129) (bs' := [bX6 y a0 (a1 0) (a2 0) t12.2.1, bX10 y a1 v1, bX5 y a2 t12.2.2]) (kb := 0) (j := 0) F [0, 1, 2] (c_X6_readSum l D y ek n a0 a1 a2 _ _ _ _ ht12) (cwV 0 F.1.2.2.2.2 (gV q4_36 q4_38 qs_15 q1_8 q4_39) rfl rfl rfl (by decide +kernel) ⟨by show 2 ≤ 1 * (d + 1) + 2; omega, by show 44 ≤ 23 * (d + 1) + 44; omega⟩) rfl rfl rfl rfl (by decide) rfl rfl rfl rfl rfl rfl (Nat.le_of_ble_eq_true rfl) ⟨Nat.zero_le _, Nat.zero_le _⟩ dX6_readAtom_129 ?_
                      refine a_if_ne (pc := 132) (tgt := 137) F dX6_readAtom_132 (by decide) (fun h => ?_) (fun h => ?_)
                      · replace hf := it_neg h hf
                        refine a_aloadn (pc := 137) (j := 0) F dX6_readAtom_137 rfl rfl ?_
                        refine a_get (pc := 138) (kb := 0) (j := 0) (f := 3) F iW_X6 rfl rfl rfl (by decide) (tl q2_2) (fun _ h => h) rfl dX6_readAtom_138 ?_
                        refine a_iloadn (pc := 141) (j := 1) F dX6_readAtom_141 rfl rfl ?_
                        refine a_ineg (pc := 142) F dX6_readAtom_142 ?_
                        obtain ⟨t13, ht13, hf⟩ := bd_some hf
                        refine a_callVv (pc := 143) (bs' := [bX6 y a0 (a1 0) (a2 0) t12.2.1, bX10 y a1 v1, bX5 y a2 t13]) (kb := 2) (j := 0) F [2] (c_X5_put l D y ek n a2 _ _ _ ht13) (cwV 1 F.1.2.2.2.2 (gV q4_32 q4_33 q4_34 q1_4 q4_35) rfl rfl rfl (by decide +kernel) ⟨by show 1 ≤ 1 * (d + 1) + 2; omega, by show 21 ≤ 23 * (d + 1) + 44; omega⟩) rfl rfl rfl rfl (by decide) rfl rfl rfl rfl rfl rfl (Nat.le_of_ble_eq_true rfl) ⟨Nat.zero_le _, Nat.zero_le _⟩ dX6_readAtom_143 ?_
                        refine a_iconst (pc := 146) F dX6_readAtom_146 kc_1 ?_
                        obtain rfl := Option.some.inj hf
                        exact hret _ _ _ _ (Nat.zero_le _) (Nat.zero_le _) (z_nar (Or.inr rfl)) dX6_readAtom_147
                      · replace hf := it_pos h hf
                        refine a_iconst (pc := 135) F dX6_readAtom_135 kc_0 ?_
                        obtain rfl := Option.some.inj hf
                        exact hret _ _ _ _ (Nat.zero_le _) (Nat.zero_le _) (z_nar (Or.inl rfl)) dX6_readAtom_136
                    · try dsimp only at hf
                      refine a_icmp_eq (pc := 107) (tgt := 118) F dX6_readAtom_107 (by decide) (fun h => ?_) (fun h => ?_)
                      · replace hf := it_pos h hf
                        refine a_sub [0, 3] rfl ?_
                        exact hK10 () hf
                      · replace hf := it_neg h hf
                        refine a_iloadn (pc := 110) (j := 3) F dX6_readAtom_110 rfl rfl ?_
                        refine a_bipush (pc := 111) F dX6_readAtom_111 kb_62 ?_
                        refine a_icmp_eq (pc := 113) (tgt := 118) F dX6_readAtom_113 (by decide) (fun h => ?_) (fun h => ?_)
                        · replace hf := it_pos h hf
                          refine a_sub [0, 3] rfl ?_
                          exact hK10 () hf
                        · replace hf := it_neg h hf
                          refine a_iconst (pc := 116) F dX6_readAtom_116 kc_0 ?_
                          obtain rfl := Option.some.inj hf
                          exact hret _ _ _ _ (Nat.zero_le _) (Nat.zero_le _) (z_nar (Or.inl rfl)) dX6_readAtom_117
                  · replace hf := it_pos h hf
                    refine a_iconst (pc := 90) F dX6_readAtom_90 kc_0 ?_
                    obtain rfl := Option.some.inj hf
                    exact hret _ _ _ _ (Nat.zero_le _) (Nat.zero_le _) (z_nar (Or.inl rfl)) dX6_readAtom_91
                · replace hf := it_pos h hf
                  refine a_sub [0, 2] rfl ?_
                  exact hK5 () hf
          · replace hf := it_pos h hf
            exact hK2 () hf
    · intro a0 a1 a2 v0 v1 v2 x1 x2 res hf
      unfold G_X6_readAny at hf
      refine ci_of (cc := cX6_readDeeper) (maxL := 3) (by decide) rfl rfl (Nat.le_of_ble_eq_true rfl) ?_
      intro p e s m below meth c Q A F hret
      refine a_lv (lv' := [(0, .ref (a0 0)), (1, .int x1), (2, .int x2)]) rfl ?_
      refine a_aloadn (pc := 0) (j := 0) F dX6_readDeeper_0 rfl rfl ?_
      refine a_dup (pc := 1) F dX6_readDeeper_1 rfl ?_
      refine a_get (pc := 2) (kb := 0) (j := 0) (f := 2) F iW_X6 rfl rfl rfl (by decide) (tl q1_225) (u_same (F.1.2.2.2.2 _ (tl q1_226))) rfl dX6_readDeeper_2 ?_
      refine a_iconst (pc := 5) F dX6_readDeeper_5 kc_1 ?_
      refine a_iadd (pc := 6) F dX6_readDeeper_6 ?_
      obtain ⟨u1, eu1, hf⟩ := nm_some hf
      refine a_put (pc := 7) (kb := 0) (j := 0) (f := 2) (ty := .int) (bs' := [bX6 y a0 (a1 0) (a2 0) u1, bX10 y a1 v1, bX5 y a2 v2]) F iW_X6 rfl rfl rfl (by decide) (tl q1_225) (u_same (F.1.2.2.2.2 _ (tl q1_226))) tyX6 tyX6_ok nmX6 rfl rfl rfl rfl (Nat.le_of_ble_eq_true rfl) (by rw [eu1]; rfl) dX6_readDeeper_7 ?_
      refine a_iloadn (pc := 10) (j := 1) F dX6_readDeeper_10 rfl rfl ?_
      refine a_bipush (pc := 11) F dX6_readDeeper_11 kb_40 ?_
      refine a_icmp_ne (pc := 13) (tgt := 39) F dX6_readDeeper_13 (by decide) (fun h => ?_) (fun h => ?_)
      · replace hf := it_neg h hf
        refine a_aloadn (pc := 39) (j := 0) F dX6_readDeeper_39 rfl rfl ?_
        refine a_iloadn (pc := 40) (j := 2) F dX6_readDeeper_40 rfl rfl ?_
        obtain ⟨t2, ht2, hf⟩ := bd_some hf
        refine a_callV (pc := 41) (bs' := [bX6 y a0 (a1 0) (a2 0) t2.2.1, bX10 y a1 v1, bX5 y a2 t2.2.2]) (kb := 0) (j := 0) F [0, 1, 2] (gh2 a0 a1 a2 _ _ _ _ _ ht2) (cwV 1 F.1.2.2.2.2 (gV q4_24 q4_26 qs_13 q1_8 q4_27) rfl rfl rfl (by decide +kernel) ⟨by show (1 * d + 2) + 1 ≤ 1 * (d + 1) + 2; omega, by show 8 + (4 + 11) + (23 * d + 44) ≤ 23 * (d + 1) + 44; omega⟩) rfl rfl rfl rfl (by decide) rfl rfl rfl rfl rfl rfl (Nat.le_of_ble_eq_true rfl) ⟨Nat.zero_le _, Nat.zero_le _⟩ dX6_readDeeper_41 ?_
        refine a_if_ne (pc := 44) (tgt := 49) F dX6_readDeeper_44 (by decide) (fun h => ?_) (fun h => ?_)
        · replace hf := it_neg h hf
          refine a_aloadn (pc := 49) (j := 0) F dX6_readDeeper_49 rfl rfl ?_
          refine a_get (pc := 50) (kb := 0) (j := 0) (f := 3) F iW_X6 rfl rfl rfl (by decide) (tl q2_2) (fun _ h => h) rfl dX6_readDeeper_50 ?_
          refine a_sipush (pc := 53) F dX6_readDeeper_53 ks_m317 ?_
          obtain ⟨t3, ht3, hf⟩ := bd_some hf
          refine a_callVv (pc := 56) (bs' := [bX6 y a0 (a1 0) (a2 0) t2.2.1, bX10 y a1 v1, bX5 y a2 t3]) (kb := 2) (j := 0) F [2] (c_X5_put l D y ek n a2 _ _ _ ht3) (cwV 1 F.1.2.2.2.2 (gV q4_32 q4_33 q4_34 q1_4 q4_35) rfl rfl rfl (by decide +kernel) ⟨by show 1 ≤ 1 * (d + 1) + 2; omega, by show 21 ≤ 23 * (d + 1) + 44; omega⟩) rfl rfl rfl rfl (by decide) rfl rfl rfl rfl rfl rfl (Nat.le_of_ble_eq_true rfl) ⟨Nat.zero_le _, Nat.zero_le _⟩ dX6_readDeeper_56 ?_
          refine a_iconst (pc := 59) F dX6_readDeeper_59 kc_1 ?_
          obtain rfl := Option.some.inj hf
          exact hret _ _ _ _ (Nat.zero_le _) (Nat.zero_le _) (z_nar (Or.inr rfl)) dX6_readDeeper_60
        · replace hf := it_pos h hf
          refine a_iconst (pc := 47) F dX6_readDeeper_47 kc_0 ?_
          obtain rfl := Option.some.inj hf
          exact hret _ _ _ _ (Nat.zero_le _) (Nat.zero_le _) (z_nar (Or.inl rfl)) dX6_readDeeper_48
      · replace hf := it_pos h hf
        refine a_aloadn (pc := 16) (j := 0) F dX6_readDeeper_16 rfl rfl ?_
        refine a_iloadn (pc := 17) (j := 2) F dX6_readDeeper_17 rfl rfl ?_
        obtain ⟨t4, ht4, hf⟩ := bd_some hf
        refine a_callV (pc := 18) (bs' := [bX6 y a0 (a1 0) (a2 0) t4.2.1, bX10 y a1 v1, bX5 y a2 t4.2.2]) (kb := 0) (j := 0) F [0, 1, 2] (gh0 a0 a1 a2 _ _ _ _ _ ht4) (cwV 1 F.1.2.2.2.2 (gV q4_16 q4_18 qs_11 q1_8 q4_19) rfl rfl rfl (by decide +kernel) ⟨by show (1 * d + 2) + 1 ≤ 1 * (d + 1) + 2; omega, by show 8 + (3 + 11) + (23 * d + 44) ≤ 23 * (d + 1) + 44; omega⟩) rfl rfl rfl rfl (by decide) rfl rfl rfl rfl rfl rfl (Nat.le_of_ble_eq_true rfl) ⟨Nat.zero_le _, Nat.zero_le _⟩ dX6_readDeeper_18 ?_
        refine a_jn 37 (fun (t5 : St) => []) (fun (t5 : St) => []) (fun (t5 : St) => [bX6 y a0 (a1 0) (a2 0) t5, bX10 y a1 v1, bX5 y a2 t4.2.2]) hf (fun t5 hf => ?_) (fun K5 hK5 hf => ?_)
        · try dsimp only at hf ⊢
          refine a_iconst (pc := 37) F dX6_readDeeper_37 kc_0 ?_
          obtain rfl := Option.some.inj hf
          exact hret _ _ _ _ (Nat.zero_le _) (Nat.zero_le _) (z_nar (Or.inl rfl)) dX6_readDeeper_38
        · try dsimp only at hf
          refine a_if_eq (pc := 21) (tgt := 37) F dX6_readDeeper_21 (by decide) (fun h => ?_) (fun h => ?_)
          · replace hf := it_pos h hf
            refine a_sub [] rfl ?_
            exact hK5 t4.2.1 hf
          · replace hf := it_neg h hf
            refine a_aloadn (pc := 24) (j := 0) F dX6_readDeeper_24 rfl rfl ?_
            refine a_bipush (pc := 25) F dX6_readDeeper_25 kb_41 ?_
            obtain ⟨t6, ht6, hf⟩ := bd_some hf
            refine a_callU (pc := 27) (bs' := [bX6 y a0 (a1 0) (a2 0) t6.2, bX10 y a1 v1, bX5 y a2 t4.2.2]) (kb := 0) (j := 0) F [0, 1, 2] (c_X9_skip_X6 l D y ek n a0 a1 a2 _ _ _ _ _ ht6) (va_cwU 1 F.1.2.2.2.2 (gU q4_13 q4_14 q4_15 q3_220 q1_6 q3_221) rfl rfl rfl rfl (by decide +kernel) ⟨by show 1 ≤ 1 * (d + 1) + 2; omega, by show 21 ≤ 23 * (d + 1) + 44; omega⟩) rfl rfl rfl rfl (by decide) rfl rfl rfl rfl rfl rfl (Nat.le_of_ble_eq_true rfl) ⟨Nat.zero_le _, Nat.zero_le _⟩ dX6_readDeeper_27 ?_
            refine a_if_eq (pc := 30) (tgt := 37) F dX6_readDeeper_30 (by decide) (fun h => ?_) (fun h => ?_)
            · replace hf := it_pos h hf
              refine a_sub [] rfl ?_
              exact hK5 t6.2 hf
            · replace hf := it_neg h hf
              refine a_iconst (pc := 33) F dX6_readDeeper_33 kc_1 ?_
              refine a_goto (pc := 34) (tgt := 38) F dX6_readDeeper_34 (by decide) ?_
              obtain rfl := Option.some.inj hf
              exact hret _ _ _ _ (Nat.zero_le _) (Nat.zero_le _) (z_nar (Or.inr rfl)) dX6_readDeeper_38
def m_X6_readAny (n : Nat) (v0 v1 v2 : St) (x1 : Int32) : Option (Int32 × St × St) := G_X6_readAny n 64 0 v0 v1 v2 x1 0
theorem c_X6_readAny (l : Launch) (D : va_G) (y : Nat → ClassId) (ek : EK) (n : Nat) (a0 a1 a2 : Nat → Nat) (v0 v1 v2 : St) (x1 : Int32) (res : Int32 × St × St) (hf : m_X6_readAny n v0 v1 v2 x1 = some res) : CI l yX6_readAny wX6_readAny { frames := 66, cells := 0, slots := 0, locals := 1516 } D y ek [.ref (a0 0), .int x1] [bX6 y a0 (a1 0) (a2 0) v0, bX10 y a1 v1, bX5 y a2 v2] (res.1) [bX6 y a0 (a1 0) (a2 0) res.2.1, bX10 y a1 v1, bX5 y a2 res.2.2] 0 0 :=
  (c_G_X6_readAny l D y ek n 64).1 a0 a1 a2 v0 v1 v2 x1 res hf
def m_X6_readAll (n : Nat) (v0 v1 v2 : St) (x1 : Int32) : Option (Int32 × St × St) := G_X6_readAny n 64 1 v0 v1 v2 x1 0
theorem c_X6_readAll (l : Launch) (D : va_G) (y : Nat → ClassId) (ek : EK) (n : Nat) (a0 a1 a2 : Nat → Nat) (v0 v1 v2 : St) (x1 : Int32) (res : Int32 × St × St) (hf : m_X6_readAll n v0 v1 v2 x1 = some res) : CI l yX6_readAll wX6_readAll { frames := 66, cells := 0, slots := 0, locals := 1516 } D y ek [.ref (a0 0), .int x1] [bX6 y a0 (a1 0) (a2 0) v0, bX10 y a1 v1, bX5 y a2 v2] (res.1) [bX6 y a0 (a1 0) (a2 0) res.2.1, bX10 y a1 v1, bX5 y a2 res.2.2] 0 0 :=
  (c_G_X6_readAny l D y ek n 64).2.1 a0 a1 a2 v0 v1 v2 x1 res hf
def m_X6_readAtom (n : Nat) (v0 v1 v2 : St) (x1 : Int32) : Option (Int32 × St × St) := G_X6_readAny n 64 2 v0 v1 v2 x1 0
theorem c_X6_readAtom (l : Launch) (D : va_G) (y : Nat → ClassId) (ek : EK) (n : Nat) (a0 a1 a2 : Nat → Nat) (v0 v1 v2 : St) (x1 : Int32) (res : Int32 × St × St) (hf : m_X6_readAtom n v0 v1 v2 x1 = some res) : CI l yX6_readAtom wX6_readAtom { frames := 66, cells := 0, slots := 0, locals := 1516 } D y ek [.ref (a0 0), .int x1] [bX6 y a0 (a1 0) (a2 0) v0, bX10 y a1 v1, bX5 y a2 v2] (res.1) [bX6 y a0 (a1 0) (a2 0) res.2.1, bX10 y a1 v1, bX5 y a2 res.2.2] 0 0 :=
  (c_G_X6_readAny l D y ek n 64).2.2.1 a0 a1 a2 v0 v1 v2 x1 res hf
def m_X6_readDeeper (n : Nat) (v0 v1 v2 : St) (x1 : Int32) (x2 : Int32) : Option (Int32 × St × St) := G_X6_readAny n 64 3 v0 v1 v2 x1 x2
theorem c_X6_readDeeper (l : Launch) (D : va_G) (y : Nat → ClassId) (ek : EK) (n : Nat) (a0 a1 a2 : Nat → Nat) (v0 v1 v2 : St) (x1 : Int32) (x2 : Int32) (res : Int32 × St × St) (hf : m_X6_readDeeper n v0 v1 v2 x1 x2 = some res) : CI l yX6_readDeeper wX6_readDeeper { frames := 66, cells := 0, slots := 0, locals := 1516 } D y ek [.ref (a0 0), .int x1, .int x2] [bX6 y a0 (a1 0) (a2 0) v0, bX10 y a1 v1, bX5 y a2 v2] (res.1) [bX6 y a0 (a1 0) (a2 0) res.2.1, bX10 y a1 v1, bX5 y a2 res.2.2] 0 0 :=
  (c_G_X6_readAny l D y ek n 64).2.2.2 a0 a1 a2 v0 v1 v2 x1 x2 res hf




abbrev wX6_readLine : List Cond := Cond.code yX6_readLine cX6_readLine 3 (some .boolean) :: WALL
def m_X6_readLine (n : Nat) (v0 : St) (v1 : St) (v2 : St) : Option (Int32 × St × St) :=
bd (m_X10_code n v1 (v0 2 0)) (fun t1 =>
jn (fun (t2 : Unit) =>
nm (su v0 2 0 ((v0 2 0) + 1)) (fun u3 =>
bd (m_X9_number_X6 n u3 v1 v2 0 60) (fun t4 =>
(if t4.1 = (-1) then
some (0, t4.2, v2)
else
bd (m_X9_skip_X6 n t4.2 v1 v2 314) (fun t5 =>
jn (fun (t6 : St × St) =>
bd (m_X5_addLine n t6.2 t1 t4.1) (fun t7 =>
some (1, t6.1, t7))) (fun (K6 : St × St → Option (Int32 × St × St)) =>
(if t5.1 = 0 then
K6 (t5.2, v2)
else
bd (m_X6_readAny n t5.2 v1 v2 0) (fun t8 =>
(if t8.1 = 0 then
some (0, t8.2.1, t8.2.2)
else
K6 (t8.2.1, t8.2.2)))))))))) (fun (K2 : Unit → Option (Int32 × St × St)) =>
(if t1 = 312 then
K2 ()
else
(if t1 = 313 then
K2 ()
else
(if t1 = 311 then
K2 ()
else
some (0, v0, v2))))))
set_option maxHeartbeats 4000000 in
set_option maxRecDepth 100000 in
theorem c_X6_readLine (l : Launch) (D : va_G) (y : Nat → ClassId) (ek : EK) (n : Nat) (a0 : Nat → Nat) (a1 : Nat → Nat) (a2 : Nat → Nat) (v0 : St) (v1 : St) (v2 : St) (res : Int32 × St × St) (hf : m_X6_readLine n v0 v1 v2 = some res) : CI l yX6_readLine wX6_readLine { frames := 67, cells := 0, slots := 0, locals := 1538 } D y ek [.ref (a0 0)] [bX6 y a0 (a1 0) (a2 0) v0, bX10 y a1 v1, bX5 y a2 v2] (res.1) [bX6 y a0 (a1 0) (a2 0) res.2.1, bX10 y a1 v1, bX5 y a2 res.2.2] 0 0 := by
  unfold m_X6_readLine at hf
  refine ci_of (cc := cX6_readLine) (maxL := 3) (by decide) rfl rfl (Nat.le_of_ble_eq_true rfl) ?_
  intro p e s m below meth c Q A F hret
  refine a_lv (lv' := [(0, .ref (a0 0))]) rfl ?_
  refine a_aloadn (pc := 0) (j := 0) F dX6_readLine_0 rfl rfl ?_
  refine a_get (pc := 1) (kb := 0) (j := 0) (f := 0) F iW_X6 rfl rfl rfl (by decide) (tl q1_219) (u_same (F.1.2.2.2.2 _ (tl q1_220))) rfl dX6_readLine_1 ?_
  refine a_aloadn (pc := 4) (j := 0) F dX6_readLine_4 rfl rfl ?_
  refine a_get (pc := 5) (kb := 0) (j := 0) (f := 2) F iW_X6 rfl rfl rfl (by decide) (tl q1_225) (u_same (F.1.2.2.2.2 _ (tl q1_226))) rfl dX6_readLine_5 ?_
  obtain ⟨t1, ht1, hf⟩ := bd_some hf
  refine a_callV (pc := 8) (bs' := [bX6 y a0 (a1 0) (a2 0) v0, bX10 y a1 v1, bX5 y a2 v2]) (kb := 1) (j := 0) F [1] (c_X10_code l D y ek n a1 _ _ _ ht1) (cwV 1 F.1.2.2.2.2 (gV q4_9 q3_192 q3_193 q1_2 q3_194) rfl rfl rfl (by decide +kernel) ⟨Nat.le_of_ble_eq_true rfl, Nat.le_of_ble_eq_true rfl⟩) rfl rfl rfl rfl (by decide) rfl rfl rfl rfl rfl rfl (Nat.le_of_ble_eq_true rfl) ⟨Nat.zero_le _, Nat.zero_le _⟩ dX6_readLine_8 ?_
  refine a_istoren (pc := 11) (lv' := [(0, .ref (a0 0)), (1, .int t1)]) F [1, 0] dX6_readLine_11 rfl (by decide) rfl ?_
  refine a_iloadn (pc := 12) (j := 1) F dX6_readLine_12 rfl rfl ?_
  refine a_sipush (pc := 13) F dX6_readLine_13 ks_312 ?_
  refine a_jn 35 (fun (t2 : Unit) => [(0, .ref (a0 0)), (1, .int t1)]) (fun (t2 : Unit) => []) (fun (t2 : Unit) => [bX6 y a0 (a1 0) (a2 0) v0, bX10 y a1 v1, bX5 y a2 v2]) hf (fun t2 hf => ?_) (fun K2 hK2 hf => ?_)
  · try dsimp only at hf ⊢
    refine a_aloadn (pc := 35) (j := 0) F dX6_readLine_35 rfl rfl ?_
    refine a_dup (pc := 36) F dX6_readLine_36 rfl ?_
    refine a_get (pc := 37) (kb := 0) (j := 0) (f := 2) F iW_X6 rfl rfl rfl (by decide) (tl q1_225) (u_same (F.1.2.2.2.2 _ (tl q1_226))) rfl dX6_readLine_37 ?_
    refine a_iconst (pc := 40) F dX6_readLine_40 kc_1 ?_
    refine a_iadd (pc := 41) F dX6_readLine_41 ?_
    obtain ⟨u3, eu3, hf⟩ := nm_some hf
    refine a_put (pc := 42) (kb := 0) (j := 0) (f := 2) (ty := .int) (bs' := [bX6 y a0 (a1 0) (a2 0) u3, bX10 y a1 v1, bX5 y a2 v2]) F iW_X6 rfl rfl rfl (by decide) (tl q1_225) (u_same (F.1.2.2.2.2 _ (tl q1_226))) tyX6 tyX6_ok nmX6 rfl rfl rfl rfl (Nat.le_of_ble_eq_true rfl) (by rw [eu3]; rfl) dX6_readLine_42 ?_
    refine a_aloadn (pc := 45) (j := 0) F dX6_readLine_45 rfl rfl ?_
    refine a_iconst (pc := 46) F dX6_readLine_46 kc_0 ?_
    refine a_bipush (pc := 47) F dX6_readLine_47 kb_60 ?_
    obtain ⟨t4, ht4, hf⟩ := bd_some hf
    refine a_callU (pc := 49) (bs' := [bX6 y a0 (a1 0) (a2 0) t4.2, bX10 y a1 v1, bX5 y a2 v2]) (kb := 0) (j := 0) F [0, 1, 2] (c_X9_number_X6 l D y ek n a0 a1 a2 _ _ _ _ _ _ ht4) (va_cwU 2 F.1.2.2.2.2 (gU q4_10 q4_11 q4_12 q3_210 q1_6 q3_211) rfl rfl rfl rfl (by decide +kernel) ⟨Nat.le_of_ble_eq_true rfl, Nat.le_of_ble_eq_true rfl⟩) rfl rfl rfl rfl (by decide) rfl rfl rfl rfl rfl rfl (Nat.le_of_ble_eq_true rfl) ⟨Nat.zero_le _, Nat.zero_le _⟩ dX6_readLine_49 ?_
    refine a_istoren (pc := 52) (lv' := [(0, .ref (a0 0)), (1, .int t1), (2, .int t4.1)]) F [1, 2, 0] dX6_readLine_52 rfl (by decide) rfl ?_
    refine a_iloadn (pc := 53) (j := 2) F dX6_readLine_53 rfl rfl ?_
    refine a_iconst (pc := 54) F dX6_readLine_54 kc_m1 ?_
    refine a_icmp_ne (pc := 55) (tgt := 60) F dX6_readLine_55 (by decide) (fun h => ?_) (fun h => ?_)
    · replace hf := it_neg h hf
      refine a_aloadn (pc := 60) (j := 0) F dX6_readLine_60 rfl rfl ?_
      refine a_sipush (pc := 61) F dX6_readLine_61 ks_314 ?_
      obtain ⟨t5, ht5, hf⟩ := bd_some hf
      refine a_callU (pc := 64) (bs' := [bX6 y a0 (a1 0) (a2 0) t5.2, bX10 y a1 v1, bX5 y a2 v2]) (kb := 0) (j := 0) F [0, 1, 2] (c_X9_skip_X6 l D y ek n a0 a1 a2 _ _ _ _ _ ht5) (va_cwU 1 F.1.2.2.2.2 (gU q4_13 q4_14 q4_15 q3_220 q1_6 q3_221) rfl rfl rfl rfl (by decide +kernel) ⟨Nat.le_of_ble_eq_true rfl, Nat.le_of_ble_eq_true rfl⟩) rfl rfl rfl rfl (by decide) rfl rfl rfl rfl rfl rfl (Nat.le_of_ble_eq_true rfl) ⟨Nat.zero_le _, Nat.zero_le _⟩ dX6_readLine_64 ?_
      refine a_jn 80 (fun (t6 : St × St) => [(0, .ref (a0 0)), (1, .int t1), (2, .int t4.1)]) (fun (t6 : St × St) => []) (fun (t6 : St × St) => [bX6 y a0 (a1 0) (a2 0) t6.1, bX10 y a1 v1, bX5 y a2 t6.2]) hf (fun t6 hf => ?_) (fun K6 hK6 hf => ?_)
      · try dsimp only at hf ⊢
        refine a_aloadn (pc := 80) (j := 0) F dX6_readLine_80 rfl rfl ?_
        refine a_get (pc := 81) (kb := 0) (j := 0) (f := 3) F iW_X6 rfl rfl rfl (by decide) (tl q2_2) (fun _ h => h) rfl dX6_readLine_81 ?_
        refine a_iloadn (pc := 84) (j := 1) F dX6_readLine_84 rfl rfl ?_
        refine a_iloadn (pc := 85) (j := 2) F dX6_readLine_85 rfl rfl ?_
        obtain ⟨t7, ht7, hf⟩ := bd_some hf
        refine a_callVv (pc := 86) (bs' := [bX6 y a0 (a1 0) (a2 0) t6.1, bX10 y a1 v1, bX5 y a2 t7]) (kb := 2) (j := 0) F [2] (c_X5_addLine l D y ek n a2 _ _ _ _ ht7) (cwV 2 F.1.2.2.2.2 (gV q4_41 q4_42 q4_43 q1_4 q4_44) rfl rfl rfl (by decide +kernel) ⟨Nat.le_of_ble_eq_true rfl, Nat.le_of_ble_eq_true rfl⟩) rfl rfl rfl rfl (by decide) rfl rfl rfl rfl rfl rfl (Nat.le_of_ble_eq_true rfl) ⟨Nat.zero_le _, Nat.zero_le _⟩ dX6_readLine_86 ?_
        refine a_iconst (pc := 89) F dX6_readLine_89 kc_1 ?_
        obtain rfl := Option.some.inj hf
        exact hret _ _ _ _ (Nat.zero_le _) (Nat.zero_le _) (z_nar (Or.inr rfl)) dX6_readLine_90
      · try dsimp only at hf
        refine a_if_eq (pc := 67) (tgt := 80) F dX6_readLine_67 (by decide) (fun h => ?_) (fun h => ?_)
        · replace hf := it_pos h hf
          exact hK6 (t5.2, v2) hf
        · replace hf := it_neg h hf
          refine a_aloadn (pc := 70) (j := 0) F dX6_readLine_70 rfl rfl ?_
          refine a_iconst (pc := 71) F dX6_readLine_71 kc_0 ?_
          obtain ⟨t8, ht8, hf⟩ := bd_some hf
          refine a_callV (pc := 72) (bs' := [bX6 y a0 (a1 0) (a2 0) t8.2.1, bX10 y a1 v1, bX5 y a2 t8.2.2]) (kb := 0) (j := 0) F [0, 1, 2] (c_X6_readAny l D y ek n a0 a1 a2 _ _ _ _ _ ht8) (cwV 1 F.1.2.2.2.2 (gV q4_16 q4_18 qs_11 q1_8 q4_19) rfl rfl rfl (by decide +kernel) ⟨Nat.le_of_ble_eq_true rfl, Nat.le_of_ble_eq_true rfl⟩) rfl rfl rfl rfl (by decide) rfl rfl rfl rfl rfl rfl (Nat.le_of_ble_eq_true rfl) ⟨Nat.zero_le _, Nat.zero_le _⟩ dX6_readLine_72 ?_
          refine a_if_ne (pc := 75) (tgt := 80) F dX6_readLine_75 (by decide) (fun h => ?_) (fun h => ?_)
          · replace hf := it_neg h hf
            exact hK6 (t8.2.1, t8.2.2) hf
          · replace hf := it_pos h hf
            refine a_iconst (pc := 78) F dX6_readLine_78 kc_0 ?_
            obtain rfl := Option.some.inj hf
            exact hret _ _ _ _ (Nat.zero_le _) (Nat.zero_le _) (z_nar (Or.inl rfl)) dX6_readLine_79
    · replace hf := it_pos h hf
      refine a_iconst (pc := 58) F dX6_readLine_58 kc_0 ?_
      obtain rfl := Option.some.inj hf
      exact hret _ _ _ _ (Nat.zero_le _) (Nat.zero_le _) (z_nar (Or.inl rfl)) dX6_readLine_59
  · try dsimp only at hf
    refine a_icmp_eq (pc := 16) (tgt := 35) F dX6_readLine_16 (by decide) (fun h => ?_) (fun h => ?_)
    · replace hf := it_pos h hf
      exact hK2 () hf
    · replace hf := it_neg h hf
      refine a_iloadn (pc := 19) (j := 1) F dX6_readLine_19 rfl rfl ?_
      refine a_sipush (pc := 20) F dX6_readLine_20 ks_313 ?_
      refine a_icmp_eq (pc := 23) (tgt := 35) F dX6_readLine_23 (by decide) (fun h => ?_) (fun h => ?_)
      · replace hf := it_pos h hf
        exact hK2 () hf
      · replace hf := it_neg h hf
        refine a_iloadn (pc := 26) (j := 1) F dX6_readLine_26 rfl rfl ?_
        refine a_sipush (pc := 27) F dX6_readLine_27 ks_311 ?_
        refine a_icmp_eq (pc := 30) (tgt := 35) F dX6_readLine_30 (by decide) (fun h => ?_) (fun h => ?_)
        · replace hf := it_pos h hf
          exact hK2 () hf
        · replace hf := it_neg h hf
          refine a_iconst (pc := 33) F dX6_readLine_33 kc_0 ?_
          obtain rfl := Option.some.inj hf
          exact hret _ _ _ _ (Nat.zero_le _) (Nat.zero_le _) (z_nar (Or.inl rfl)) dX6_readLine_34

def m_X9_read_X6 (n : Nat) (v0 : St) (v1 : St) (v2 : St) : Option (Int32 × St × St) :=
nm (su v0 2 0 0) (fun u1 =>
bd (m_X10_code n v1 (u1 2 0)) (fun t2 =>
(if t2 = 259 then
some ((-1), u1, v2)
else
jn (fun (t3 : St × St) =>
bd (m_X10_start n v1 (t3.1 2 0)) (fun t4 =>
some (t4, t3.1, t3.2))) (fun (K3 : St × St → Option (Int32 × St × St)) =>
lp (fun (rc5 : Int32 × St × St → Option (Int32 × St × St)) (x5l : Int32 × St × St) =>
(if (x5l.2.1 1 0) ≤ x5l.1 then
K3 (x5l.2.1, x5l.2.2)
else
bd (m_X6_readLine n x5l.2.1 v1 x5l.2.2) (fun t6 =>
(if t6.1 = 0 then
bd (m_X10_start n v1 (t6.2.1 2 0)) (fun t10 =>
some (t10, t6.2.1, t6.2.2))
else
bd (m_X9_skip_X6 n t6.2.1 v1 t6.2.2 259) (fun t7 =>
(if t7.1 = 0 then
bd (m_X9_skip_X6 n t7.2 v1 t6.2.2 59) (fun t8 =>
(if t8.1 = 0 then
bd (m_X10_start n v1 (t8.2 2 0)) (fun t9 =>
some (t9, t8.2, t6.2.2))
else
rc5 ((x5l.1 + 1), t8.2, t6.2.2)))
else
some ((-1), t7.2, t6.2.2))))))) n (0, u1, v2)))))
set_option maxHeartbeats 4000000 in
set_option maxRecDepth 100000 in
theorem c_X9_read_X6 (l : Launch) (D : va_G) (y : Nat → ClassId) (ek : EK) (n : Nat) (a0 : Nat → Nat) (a1 : Nat → Nat) (a2 : Nat → Nat) (v0 : St) (v1 : St) (v2 : St) (res : Int32 × St × St) (hf : m_X9_read_X6 n v0 v1 v2 = some res) : CI l yX9_read wX9_read { frames := 68, cells := 0, slots := 0, locals := 1560 } D y ek [.ref (a0 0)] [bX6 y a0 (a1 0) (a2 0) v0, bX10 y a1 v1, bX5 y a2 v2] (res.1) [bX6 y a0 (a1 0) (a2 0) res.2.1, bX10 y a1 v1, bX5 y a2 res.2.2] 0 0 := by
  unfold m_X9_read_X6 at hf
  refine ci_of (cc := cX9_read) (maxL := 2) (by decide) rfl rfl (Nat.le_of_ble_eq_true rfl) ?_
  intro p e s m below meth c Q A F hret
  refine a_lv (lv' := [(0, .ref (a0 0))]) rfl ?_
  refine a_aloadn (pc := 0) (j := 0) F dX9_read_0 rfl rfl ?_
  refine a_iconst (pc := 1) F dX9_read_1 kc_0 ?_
  obtain ⟨u1, eu1, hf⟩ := nm_some hf
  refine a_put (pc := 2) (kb := 0) (j := 0) (f := 2) (ty := .int) (bs' := [bX6 y a0 (a1 0) (a2 0) u1, bX10 y a1 v1, bX5 y a2 v2]) F iW_X6 rfl rfl rfl (by decide) (tl q1_222) (fun _ h => h) tyX6 tyX6_ok nmX6 rfl rfl rfl rfl (Nat.le_of_ble_eq_true rfl) (by rw [eu1]; rfl) dX9_read_2 ?_
  refine a_aloadn (pc := 5) (j := 0) F dX9_read_5 rfl rfl ?_
  refine a_get (pc := 6) (kb := 0) (j := 0) (f := 0) F iW_X6 rfl rfl rfl (by decide) (tl q1_216) (fun _ h => h) rfl dX9_read_6 ?_
  refine a_aloadn (pc := 9) (j := 0) F dX9_read_9 rfl rfl ?_
  refine a_get (pc := 10) (kb := 0) (j := 0) (f := 2) F iW_X6 rfl rfl rfl (by decide) (tl q1_222) (fun _ h => h) rfl dX9_read_10 ?_
  obtain ⟨t2, ht2, hf⟩ := bd_some hf
  refine a_callV (pc := 13) (bs' := [bX6 y a0 (a1 0) (a2 0) u1, bX10 y a1 v1, bX5 y a2 v2]) (kb := 1) (j := 0) F [1] (c_X10_code l D y ek n a1 _ _ _ ht2) (cwV 1 F.1.2.2.2.2 (gV q3_191 q3_192 q3_193 q1_2 q3_194) rfl rfl rfl (by decide +kernel) ⟨Nat.le_of_ble_eq_true rfl, Nat.le_of_ble_eq_true rfl⟩) rfl rfl rfl rfl (by decide) rfl rfl rfl rfl rfl rfl (Nat.le_of_ble_eq_true rfl) ⟨Nat.zero_le _, Nat.zero_le _⟩ dX9_read_13 ?_
  refine a_sipush (pc := 16) F dX9_read_16 ks_259 ?_
  refine a_icmp_ne (pc := 19) (tgt := 24) F dX9_read_19 (by decide) (fun h => ?_) (fun h => ?_)
  · replace hf := it_neg h hf
    refine a_iconst (pc := 24) F dX9_read_24 kc_0 ?_
    refine a_istoren (pc := 25) (lv' := [(0, .ref (a0 0)), (1, .int 0)]) F [1, 0] dX9_read_25 rfl (by decide) rfl ?_
    refine a_jn 92 (fun (t3 : St × St) => [(0, .ref (a0 0))]) (fun (t3 : St × St) => []) (fun (t3 : St × St) => [bX6 y a0 (a1 0) (a2 0) t3.1, bX10 y a1 v1, bX5 y a2 t3.2]) hf (fun t3 hf => ?_) (fun K3 hK3 hf => ?_)
    · try dsimp only at hf ⊢
      refine a_aloadn (pc := 92) (j := 0) F dX9_read_92 rfl rfl ?_
      refine a_get (pc := 93) (kb := 0) (j := 0) (f := 0) F iW_X6 rfl rfl rfl (by decide) (tl q1_216) (fun _ h => h) rfl dX9_read_93 ?_
      refine a_aloadn (pc := 96) (j := 0) F dX9_read_96 rfl rfl ?_
      refine a_get (pc := 97) (kb := 0) (j := 0) (f := 2) F iW_X6 rfl rfl rfl (by decide) (tl q1_222) (fun _ h => h) rfl dX9_read_97 ?_
      obtain ⟨t4, ht4, hf⟩ := bd_some hf
      refine a_callV (pc := 100) (bs' := [bX6 y a0 (a1 0) (a2 0) t3.1, bX10 y a1 v1, bX5 y a2 t3.2]) (kb := 1) (j := 0) F [1] (c_X10_start l D y ek n a1 _ _ _ ht4) (cwV 1 F.1.2.2.2.2 (gV q4_45 q4_46 q4_47 q1_2 q4_48) rfl rfl rfl (by decide +kernel) ⟨Nat.le_of_ble_eq_true rfl, Nat.le_of_ble_eq_true rfl⟩) rfl rfl rfl rfl (by decide) rfl rfl rfl rfl rfl rfl (Nat.le_of_ble_eq_true rfl) ⟨Nat.zero_le _, Nat.zero_le _⟩ dX9_read_100 ?_
      obtain rfl := Option.some.inj hf
      exact hret _ _ _ _ (Nat.zero_le _) (Nat.zero_le _) rfl dX9_read_103
    · try dsimp only at hf
      refine a_loop 26 (fun (x5l : Int32 × St × St) => [(0, .ref (a0 0)), (1, .int x5l.1)]) (fun (x5l : Int32 × St × St) => [bX6 y a0 (a1 0) (a2 0) x5l.2.1, bX10 y a1 v1, bX5 y a2 x5l.2.2]) (fun rc5 x5l ih5 hf => ?_) hf rfl rfl
      try dsimp only at hf ⊢
      refine a_iloadn (pc := 26) (j := 1) F dX9_read_26 rfl rfl ?_
      refine a_aloadn (pc := 27) (j := 0) F dX9_read_27 rfl rfl ?_
      refine a_get (pc := 28) (kb := 0) (j := 0) (f := 1) F iW_X6 rfl rfl rfl (by decide) (tl q1_221) (fun _ h => h) rfl dX9_read_28 ?_
      refine a_icmp_ge (pc := 31) (tgt := 92) F dX9_read_31 (by decide) (fun h => ?_) (fun h => ?_)
      · replace hf := it_pos h hf
        refine a_sub [0] rfl ?_
        exact hK3 (x5l.2.1, x5l.2.2) hf
      · replace hf := it_neg h hf
        refine a_aloadn (pc := 34) (j := 0) F dX9_read_34 rfl rfl ?_
        obtain ⟨t6, ht6, hf⟩ := bd_some hf
        refine a_callU (pc := 35) (bs' := [bX6 y a0 (a1 0) (a2 0) t6.2.1, bX10 y a1 v1, bX5 y a2 t6.2.2]) (kb := 0) (j := 0) F [0, 1, 2] (c_X6_readLine l D y ek n a0 a1 a2 _ _ _ _ ht6) (va_cwA 0 F.1.2.2.2.2 (gU q3_195 q3_197 q4_6 q4_7 q1_8 q4_8) rfl rfl rfl F.2.2.2.2.2.2.2.2.2.2.2.1 (by decide +kernel) ⟨Nat.le_of_ble_eq_true rfl, Nat.le_of_ble_eq_true rfl⟩) rfl rfl rfl rfl (by decide) rfl rfl rfl rfl rfl rfl (Nat.le_of_ble_eq_true rfl) ⟨Nat.zero_le _, Nat.zero_le _⟩ dX9_read_35 ?_
        refine a_if_ne (pc := 38) (tgt := 53) F dX9_read_38 (by decide) (fun h => ?_) (fun h => ?_)
        · replace hf := it_neg h hf
          refine a_aloadn (pc := 53) (j := 0) F dX9_read_53 rfl rfl ?_
          refine a_sipush (pc := 54) F dX9_read_54 ks_259 ?_
          obtain ⟨t7, ht7, hf⟩ := bd_some hf
          refine a_callU (pc := 57) (bs' := [bX6 y a0 (a1 0) (a2 0) t7.2, bX10 y a1 v1, bX5 y a2 t6.2.2]) (kb := 0) (j := 0) F [0, 1, 2] (c_X9_skip_X6 l D y ek n a0 a1 a2 _ _ _ _ _ ht7) (va_cwU 1 F.1.2.2.2.2 (gU q4_49 q8_238 q9_0 q3_220 q1_6 q3_221) rfl rfl rfl rfl (by decide +kernel) ⟨Nat.le_of_ble_eq_true rfl, Nat.le_of_ble_eq_true rfl⟩) rfl rfl rfl rfl (by decide) rfl rfl rfl rfl rfl rfl (Nat.le_of_ble_eq_true rfl) ⟨Nat.zero_le _, Nat.zero_le _⟩ dX9_read_57 ?_
          refine a_if_eq (pc := 60) (tgt := 65) F dX9_read_60 (by decide) (fun h => ?_) (fun h => ?_)
          · replace hf := it_pos h hf
            refine a_aloadn (pc := 65) (j := 0) F dX9_read_65 rfl rfl ?_
            refine a_bipush (pc := 66) F dX9_read_66 kb_59 ?_
            obtain ⟨t8, ht8, hf⟩ := bd_some hf
            refine a_callU (pc := 68) (bs' := [bX6 y a0 (a1 0) (a2 0) t8.2, bX10 y a1 v1, bX5 y a2 t6.2.2]) (kb := 0) (j := 0) F [0, 1, 2] (c_X9_skip_X6 l D y ek n a0 a1 a2 _ _ _ _ _ ht8) (va_cwU 1 F.1.2.2.2.2 (gU q4_49 q8_238 q9_0 q3_220 q1_6 q3_221) rfl rfl rfl rfl (by decide +kernel) ⟨Nat.le_of_ble_eq_true rfl, Nat.le_of_ble_eq_true rfl⟩) rfl rfl rfl rfl (by decide) rfl rfl rfl rfl rfl rfl (Nat.le_of_ble_eq_true rfl) ⟨Nat.zero_le _, Nat.zero_le _⟩ dX9_read_68 ?_
            refine a_if_ne (pc := 71) (tgt := 86) F dX9_read_71 (by decide) (fun h => ?_) (fun h => ?_)
            · replace hf := it_neg h hf
              refine a_iinc (pc := 86) (j := 1) (v := (x5l.1 + 1)) (lv' := [(0, .ref (a0 0)), (1, .int (x5l.1 + 1))]) F [1, 0] dX9_read_86 rfl ki_1 (by decide) rfl ?_
              refine a_goto (pc := 89) (tgt := 26) F dX9_read_89 (by decide) ?_
              exact ih5 ((x5l.1 + 1), t8.2, t6.2.2) hf
            · replace hf := it_pos h hf
              refine a_aloadn (pc := 74) (j := 0) F dX9_read_74 rfl rfl ?_
              refine a_get (pc := 75) (kb := 0) (j := 0) (f := 0) F iW_X6 rfl rfl rfl (by decide) (tl q1_216) (fun _ h => h) rfl dX9_read_75 ?_
              refine a_aloadn (pc := 78) (j := 0) F dX9_read_78 rfl rfl ?_
              refine a_get (pc := 79) (kb := 0) (j := 0) (f := 2) F iW_X6 rfl rfl rfl (by decide) (tl q1_222) (fun _ h => h) rfl dX9_read_79 ?_
              obtain ⟨t9, ht9, hf⟩ := bd_some hf
              refine a_callV (pc := 82) (bs' := [bX6 y a0 (a1 0) (a2 0) t8.2, bX10 y a1 v1, bX5 y a2 t6.2.2]) (kb := 1) (j := 0) F [1] (c_X10_start l D y ek n a1 _ _ _ ht9) (cwV 1 F.1.2.2.2.2 (gV q4_45 q4_46 q4_47 q1_2 q4_48) rfl rfl rfl (by decide +kernel) ⟨Nat.le_of_ble_eq_true rfl, Nat.le_of_ble_eq_true rfl⟩) rfl rfl rfl rfl (by decide) rfl rfl rfl rfl rfl rfl (Nat.le_of_ble_eq_true rfl) ⟨Nat.zero_le _, Nat.zero_le _⟩ dX9_read_82 ?_
              obtain rfl := Option.some.inj hf
              exact hret _ _ _ _ (Nat.zero_le _) (Nat.zero_le _) rfl dX9_read_85
          · replace hf := it_neg h hf
            refine a_iconst (pc := 63) F dX9_read_63 kc_m1 ?_
            obtain rfl := Option.some.inj hf
            exact hret _ _ _ _ (Nat.zero_le _) (Nat.zero_le _) rfl dX9_read_64
        · replace hf := it_pos h hf
          refine a_aloadn (pc := 41) (j := 0) F dX9_read_41 rfl rfl ?_
          refine a_get (pc := 42) (kb := 0) (j := 0) (f := 0) F iW_X6 rfl rfl rfl (by decide) (tl q1_216) (fun _ h => h) rfl dX9_read_42 ?_
          refine a_aloadn (pc := 45) (j := 0) F dX9_read_45 rfl rfl ?_
          refine a_get (pc := 46) (kb := 0) (j := 0) (f := 2) F iW_X6 rfl rfl rfl (by decide) (tl q1_222) (fun _ h => h) rfl dX9_read_46 ?_
          obtain ⟨t10, ht10, hf⟩ := bd_some hf
          refine a_callV (pc := 49) (bs' := [bX6 y a0 (a1 0) (a2 0) t6.2.1, bX10 y a1 v1, bX5 y a2 t6.2.2]) (kb := 1) (j := 0) F [1] (c_X10_start l D y ek n a1 _ _ _ ht10) (cwV 1 F.1.2.2.2.2 (gV q4_45 q4_46 q4_47 q1_2 q4_48) rfl rfl rfl (by decide +kernel) ⟨Nat.le_of_ble_eq_true rfl, Nat.le_of_ble_eq_true rfl⟩) rfl rfl rfl rfl (by decide) rfl rfl rfl rfl rfl rfl (Nat.le_of_ble_eq_true rfl) ⟨Nat.zero_le _, Nat.zero_le _⟩ dX9_read_49 ?_
          obtain rfl := Option.some.inj hf
          exact hret _ _ _ _ (Nat.zero_le _) (Nat.zero_le _) rfl dX9_read_52
  · replace hf := it_pos h hf
    refine a_iconst (pc := 22) F dX9_read_22 kc_m1 ?_
    obtain rfl := Option.some.inj hf
    exact hret _ _ _ _ (Nat.zero_le _) (Nat.zero_le _) rfl dX9_read_23
