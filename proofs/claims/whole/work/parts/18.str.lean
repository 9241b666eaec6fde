abbrev wJ3_checkIndex_8e157 : List Cond := Cond.code yJ3_checkIndex_8e157 cJ3_checkIndex_8e157 3 (some .int) :: WALL
abbrev wJ0_checkIndex_df160 : List Cond := Cond.code yJ0_checkIndex_df160 cJ0_checkIndex_df160 2 none :: WALL
abbrev wJ1_charAt_3b067 : List Cond := Cond.code yJ1_charAt_3b067 cJ1_charAt_3b067 2 (some .char) :: WALL
abbrev wJ0_isLatin1_aae02 : List Cond := Cond.code yJ0_isLatin1_aae02 cJ0_isLatin1_aae02 1 (some .boolean) :: WALL
abbrev wJ0_coder_7d493 : List Cond := Cond.code yJ0_coder_7d493 cJ0_coder_7d493 1 (some .byte) :: WALL
abbrev wJ0_length_8abf5 : List Cond := Cond.code yJ0_length_8abf5 cJ0_length_8abf5 1 (some .int) :: WALL
abbrev wJ0_charAt_5068e : List Cond := Cond.code yJ0_charAt_5068e cJ0_charAt_5068e 2 (some .char) :: WALL
section STR
variable {p : Program} {l : Launch} {e : Env} {R : Room} {s : State} {m : MethodId} {args : Array Value} {below : List Frame} {meth : Method} {c : Code} {Q : State → Prop} {D : va_G} {y : Nat → ClassId} {ek : EK} {A : Nat → Prop} {nL cells slots pc : Nat} {cc : ByteArray} {own : String} {Ts : List Cond} {lv : List (Nat × Value)} {st : List Value} {bs : List va_W}
theorem a_svalue (F : Fx p s m args c cc own Ts nL D y ek A) {i index : Nat} (hi : i < 26) (hlk : Cond.fieldLink own index "java/lang/String" "value" "[B" ∈ Ts) (hd : decode cc pc = .ok (.getfield index, 3)) (k : At p l e R s m args below meth c Q D A nL cells slots (pc + 3) lv (.ref (ek.2 i) :: st) bs) : At p l e R s m args below meth c Q D A nL cells slots pc lv (.ref (ek.1 i) :: st) bs :=
  fun H locs ls hP hD hS hl => vk_getf F.1.1 F.1.2.1 (F.2.2.2.1 i hi).2.2.1 hS F.1.2.2.2.1 (F.1.2.2.2.2 _ hlk) (fun _ h => h) hd (k H locs ls hP hD hS hl)
theorem a_scoder (F : Fx p s m args c cc own Ts nL D y ek A) {i index : Nat} (hi : i < 26) (hlk : Cond.fieldLink own index "java/lang/String" "coder" "B" ∈ Ts) (hd : decode cc pc = .ok (.getfield index, 3)) (k : At p l e R s m args below meth c Q D A nL cells slots (pc + 3) lv (.int 0 :: st) bs) : At p l e R s m args below meth c Q D A nL cells slots pc lv (.ref (ek.1 i) :: st) bs :=
  fun H locs ls hP hD hS hl => vk_getf F.1.1 F.1.2.1 (F.2.2.2.1 i hi).2.1 hS F.1.2.2.2.1 (F.1.2.2.2.2 _ hlk) (fun _ h => h) hd (k H locs ls hP hD hS hl)
theorem a_scompact (F : Fx p s m args c cc own Ts nL D y ek A) {index : Nat} (hlk : Cond.fieldLink own index "java/lang/String" "COMPACT_STRINGS" "Z" ∈ Ts) (hd : decode cc pc = .ok (.getstatic index, 3)) (k : At p l e R s m args below meth c Q D A nL cells slots (pc + 3) lv (.int 1 :: st) bs) : At p l e R s m args below meth c Q D A nL cells slots pc lv st bs :=
  fun H locs ls hP hD hS hl => va_gets F.1.1 F.1.2.1 F.2.2.2.2.2.1 hS F.1.2.2.2.1 (F.1.2.2.2.2 _ hlk) (fun _ h => h) hd (k H locs ls hP hD hS hl)
theorem a_sform (F : Fx p s m args c cc own Ts nL D y ek A) {index : Nat} (hlk : Cond.fieldLink own index "jdk/internal/util/Preconditions" "SIOOBE_FORMATTER" "Ljava/util/function/BiFunction;" ∈ Ts) (hd : decode cc pc = .ok (.getstatic index, 3)) (k : ∀ v : Option Nat, At p l e R s m args below meth c Q D A nL cells slots (pc + 3) lv (va_rf v :: st) bs) : At p l e R s m args below meth c Q D A nL cells slots pc lv st bs := by
  intro H locs ls hP hD hS hl
  rcases F.2.2.2.2.2.2.1 with h | ⟨t, h⟩
  · exact va_gets F.1.1 F.1.2.1 h hS F.1.2.2.2.1 (F.1.2.2.2.2 _ hlk) (fun _ h => h) hd (k none H locs ls hP hD hS hl)
  · exact va_gets F.1.1 F.1.2.1 h hS F.1.2.2.2.1 (F.1.2.2.2.2 _ hlk) (fun _ h => h) hd (k (some t) H locs ls hP hD hS hl)
theorem a_slen (F : Fx p s m args c cc own Ts nL D y ek A) {i : Nat} {v : Int32} (hi : i < 26) (hv : Int32.ofNat (sLen.getD i 0) = v) (hd : decode cc pc = .ok (.arraylength, 1)) (k : At p l e R s m args below meth c Q D A nL cells slots (pc + 1) lv (.int v :: st) bs) : At p l e R s m args below meth c Q D A nL cells slots pc lv (.ref (ek.2 i) :: st) bs :=
  fun H locs ls hP hD hS hl => va_tlen F.1.1 F.1.2.1 (F.2.2.2.1 i hi).2.2.2 hS hv hd (k H locs ls hP hD hS hl)
theorem a_sbyte (F : Fx p s m args c cc own Ts nL D y ek A) {i : Nat} {k0 : Int32} (hi : i < 26) (hk : ix k0 (sLen.getD i 0)) (hd : decode cc pc = .ok (.baload, 1)) (k : At p l e R s m args below meth c Q D A nL cells slots (pc + 1) lv (.int ((sByt.getD i []).getD k0.toNatClampNeg 0) :: st) bs) : At p l e R s m args below meth c Q D A nL cells slots pc lv (.int k0 :: .ref (ek.2 i) :: st) bs :=
  fun H locs ls hP hD hS hl => va_tb F.1.1 F.1.2.1 (F.2.2.2.1 i hi).2.2.2 hS (ix_in hk) rfl hd (k H locs ls hP hD hS hl)
theorem a_ldcS (F : Fx p s m args c cc own Ts nL D y ek A) (i : Nat) {index : Nat} {tx : String} (hi : sTab[i]? = some (own, index, tx)) (hd : decode cc pc = .ok (.ldc index, 2)) (k : At p l e R s m args below meth c Q D A nL cells slots (pc + 2) lv (.ref (ek.1 i) :: st) bs) : At p l e R s m args below meth c Q D A nL cells slots pc lv st bs :=
  fun H locs ls hP hD hS hl => va_ldcS F.1.1 F.1.2.1 F.1.2.2.2.1 (F.2.2.2.2.1 i _ hi) hd (k H locs ls hP hD hS hl)
theorem a_i2c (F : Fx p s m args c cc own Ts nL D y ek A) {x v : Int32} (hd : decode cc pc = .ok (.i2c, 1)) (hv : (x.toUInt32 % 65536).toInt32 = v) (k : At p l e R s m args below meth c Q D A nL cells slots (pc + 1) lv (.int v :: st) bs) : At p l e R s m args below meth c Q D A nL cells slots pc lv (.int x :: st) bs :=
  fun H locs ls hP hD hS hl => lv_i2c F.1.1 F.1.2.1 hd hv (k H locs ls hP hD hS hl)
variable {y0 : MethodName} {ws : List Cond} {rm : Room} {bytes : ByteArray} {maxL n index : Nat} {ret : Option FieldType} {As : List Value} {r : Int32}
/-- a call of a text's method -/
theorem a_callStr (F : Fx p s m args c cc own Ts nL D y ek A) {i : Nat} (hi : i < 26) (hM : CI l y0 ws rm D y ek (.ref (ek.1 i) :: As) [] r [] 0 0) (cw : CallW R s args own "java/lang/String" index y0 bytes maxL ret ws rm 0 0 n)
    (hAs : As.length = n) {st0 : List Value} (hst : st0 = As.reverse ++ .ref (ek.1 i) :: st) (hW : (st.map fun v => v.category).sum ≤ 8) (hf : cells + 0 ≤ R.cells ∧ slots + 0 ≤ R.slots) (hd : decode cc pc = .ok (.invokevirtual index, 3))
    (k : At p l e R s m args below meth c Q D A nL cells slots (pc + 3) lv (.int r :: st) bs) : At p l e R s m args below meth c Q D A nL cells slots pc lv st0 bs := by
  intro H locs ls hP hD hS hl
  have hk : ∀ k ∈ ([] : List Nat), k < bs.length := fun k h => by cases h
  obtain ⟨hPc, hDc, hF⟩ := b_cut (ks := []) (bs0 := []) hP hD hS F.2.2.1 rfl hk rfl
  refine va_calli (va_runV (As := As) (rest := st) F.1 (hM H.size) cw ⟨pc_blind, ?_, fun U hU hW => ⟨rfl, by rw [hU], by rw [hU]; exact b_left hPc, va_K.moved hW.alike F.2.1, b_leftD hDc, F.2.2.2.call hS hW hU hF⟩⟩ rfl hAs hl.1 hst (lv_room hW) hd hf) hS (fun q _ h => hF q h) hF (fun r1 u t H1 locs1 ht hvm hw hB hz1 hk1 hS1 => ?_)
  · obtain ⟨cell, g1, g2, g3, -⟩ := (F.2.2.2.1 i hi).1.kept hS.2.1
    exact ⟨cell, g1, g2, g3⟩
  · obtain ⟨hP1, hK1, hD1⟩ := hB
    rw [ht] at hP1
    subst hw
    obtain ⟨g1, g2⟩ := b_back (ks := []) (bs1 := []) hPc hDc hF rfl hk rfl hk1 hP1 hD1
    exact k H1 locs1 ls g1 g2 hS1 hl
end STR
set_option maxHeartbeats 4000000 in
set_option maxRecDepth 100000 in
theorem c_J3ck (l : Launch) (D : va_G) (y : Nat → ClassId) (ek : EK) (k L : Int32) (v : Option Nat) (h0 : ¬ k < 0) (h1 : k < L) : CI l yJ3_checkIndex_8e157 wJ3_checkIndex_8e157 { frames := 0, cells := 0, slots := 0, locals := 0 } D y ek [.int k, .int L, va_rf v] [] k [] 0 0 := by
  refine ci_of (cc := cJ3_checkIndex_8e157) (maxL := 3) (by decide) rfl rfl (by cases v <;> exact (Nat.le_of_ble_eq_true rfl)) ?_
  intro p e s m below meth c Q A F hret
  refine a_lv (lv' := [(0, .int k), (1, .int L), (2, va_rf v)]) rfl ?_
  refine a_iloadn (pc := 0) (j := 0) F dJ3_checkIndex_8e157_0 rfl rfl ?_
  refine a_if_lt (pc := 1) (tgt := 9) F dJ3_checkIndex_8e157_1 (by decide) (fun h => absurd h h0) (fun h => ?_)
  refine a_iloadn (pc := 4) (j := 0) F dJ3_checkIndex_8e157_4 rfl rfl ?_
  refine a_iloadn (pc := 5) (j := 1) F dJ3_checkIndex_8e157_5 rfl rfl ?_
  refine a_icmp_lt (pc := 6) (tgt := 16) F dJ3_checkIndex_8e157_6 (by decide) (fun h => ?_) (fun h => absurd h1 h)
  refine a_iloadn (pc := 16) (j := 0) F dJ3_checkIndex_8e157_16 rfl rfl ?_
  exact hret _ _ _ _ (Nat.zero_le _) (Nat.zero_le _) rfl dJ3_checkIndex_8e157_17
set_option maxHeartbeats 4000000 in
set_option maxRecDepth 100000 in
theorem c_J0ck (l : Launch) (D : va_G) (y : Nat → ClassId) (ek : EK) (k L : Int32) (h0 : ¬ k < 0) (h1 : k < L) : CV l yJ0_checkIndex_df160 wJ0_checkIndex_df160 { frames := 1, cells := 0, slots := 0, locals := 22 } D y ek [.int k, .int L] [] [] 0 0 := by
  have L0 : Cond.fieldLink RJ0 1053 "jdk/internal/util/Preconditions" "SIOOBE_FORMATTER" "Ljava/util/function/BiFunction;" ∈ wJ0_checkIndex_df160 := tl q3_148
  refine cv_of (cc := cJ0_checkIndex_df160) (maxL := 2) (by decide) rfl rfl (Nat.le_of_ble_eq_true rfl) ?_
  intro p e s m below meth c Q A F hret
  refine a_lv (lv' := [(0, .int k), (1, .int L)]) rfl ?_
  refine a_iloadn (pc := 0) (j := 0) F dJ0_checkIndex_df160_0 rfl rfl ?_
  refine a_iloadn (pc := 1) (j := 1) F dJ0_checkIndex_df160_1 rfl rfl ?_
  refine a_sform (pc := 2) F L0 dJ0_checkIndex_df160_2 (fun v => ?_)
  refine a_callS (pc := 5) (bs' := []) F [] (c_J3ck l D y ek k L v h0 h1) (va_cwS 3 F.1.2.2.2.2 (gS q3_150 q3_151 q1_14 q3_152) rfl rfl rfl (by decide +kernel) ⟨Nat.le_of_ble_eq_true rfl, Nat.le_of_ble_eq_true rfl⟩) (by decide) rfl rfl rfl rfl rfl rfl (Nat.le_of_ble_eq_true rfl) ⟨Nat.zero_le _, Nat.zero_le _⟩ dJ0_checkIndex_df160_5 ?_
  refine a_pop (pc := 8) F dJ0_checkIndex_df160_8 rfl ?_
  exact hret _ _ _ _ (Nat.zero_le _) (Nat.zero_le _) dJ0_checkIndex_df160_9
theorem ix_lt {k : Int32} {n : Nat} (h : ix k n) (hn : n < 2 ^ 31) : k < Int32.ofNat n := by
  obtain ⟨j, h1, h2⟩ := vp_in_of (ix_in h) hn
  subst h2
  exact nI_lt h1 hn
theorem sLen_lt : ∀ i : Nat, i < 26 → sLen.getD i 0 < 2 ^ 31 := by decide +kernel
def s_ch (i : Nat) (k : Int32) : Int32 := (sByt.getD i []).getD k.toNatClampNeg 0 &&& 255
set_option maxHeartbeats 4000000 in
set_option maxRecDepth 100000 in
theorem c_J1ch (l : Launch) (D : va_G) (y : Nat → ClassId) (ek : EK) (i : Nat) (k : Int32) (hi : i < 26) (hk : ix k (sLen.getD i 0)) : CI l yJ1_charAt_3b067 wJ1_charAt_3b067 { frames := 2, cells := 0, slots := 0, locals := 43 } D y ek [.ref (ek.2 i), .int k] [] (s_ch i k) [] 0 0 := by
  refine ci_of (cc := cJ1_charAt_3b067) (maxL := 2) (by decide) rfl rfl (Nat.le_of_ble_eq_true rfl) ?_
  intro p e s m below meth c Q A F hret
  refine a_lv (lv' := [(0, .ref (ek.2 i)), (1, .int k)]) rfl ?_
  refine a_iloadn (pc := 0) (j := 1) F dJ1_charAt_3b067_0 rfl rfl ?_
  refine a_aloadn (pc := 1) (j := 0) F dJ1_charAt_3b067_1 rfl rfl ?_
  refine a_slen (pc := 2) F hi rfl dJ1_charAt_3b067_2 ?_
  refine a_callSv (pc := 3) (bs' := []) F [] (c_J0ck l D y ek k (Int32.ofNat (sLen.getD i 0)) hk.1 (ix_lt hk (sLen_lt i hi))) (va_cwS 2 F.1.2.2.2.2 (gS q3_145 q3_146 q1_12 q3_147) rfl rfl rfl (by decide +kernel) ⟨Nat.le_of_ble_eq_true rfl, Nat.le_of_ble_eq_true rfl⟩) (by decide) rfl rfl rfl rfl rfl rfl (Nat.le_of_ble_eq_true rfl) ⟨Nat.zero_le _, Nat.zero_le _⟩ dJ1_charAt_3b067_3 ?_
  refine a_aloadn (pc := 6) (j := 0) F dJ1_charAt_3b067_6 rfl rfl ?_
  refine a_iloadn (pc := 7) (j := 1) F dJ1_charAt_3b067_7 rfl rfl ?_
  refine a_sbyte (pc := 8) F hi hk dJ1_charAt_3b067_8 ?_
  refine a_sipush (pc := 9) (v := 255) F dJ1_charAt_3b067_9 (by decide) ?_
  refine a_iand (pc := 12) F dJ1_charAt_3b067_12 ?_
  refine a_i2c (pc := 13) (v := s_ch i k) F dJ1_charAt_3b067_13 (sc_c2 _) ?_
  exact hret _ _ _ _ (Nat.zero_le _) (Nat.zero_le _) (sc_nar _) dJ1_charAt_3b067_14
set_option maxHeartbeats 4000000 in
set_option maxRecDepth 100000 in
theorem c_J0lat (l : Launch) (D : va_G) (y : Nat → ClassId) (ek : EK) (i : Nat) (hi : i < 26) : CI l yJ0_isLatin1_aae02 wJ0_isLatin1_aae02 { frames := 0, cells := 0, slots := 0, locals := 0 } D y ek [.ref (ek.1 i)] [] 1 [] 0 0 := by
  have L0 : Cond.fieldLink RJ0 38 "java/lang/String" "COMPACT_STRINGS" "Z" ∈ wJ0_isLatin1_aae02 := tl q3_132
  have L1 : Cond.fieldLink RJ0 15 "java/lang/String" "coder" "B" ∈ wJ0_isLatin1_aae02 := tl q9_20
  refine ci_of (cc := cJ0_isLatin1_aae02) (maxL := 1) (by decide) rfl rfl (Nat.le_of_ble_eq_true rfl) ?_
  intro p e s m below meth c Q A F hret
  refine a_lv (lv' := [(0, .ref (ek.1 i))]) rfl ?_
  refine a_scompact (pc := 0) F L0 dJ0_isLatin1_aae02_0 ?_
  refine a_if_eq (pc := 3) (tgt := 17) F dJ0_isLatin1_aae02_3 (by decide) (fun h => absurd h (by decide)) (fun h => ?_)
  refine a_aloadn (pc := 6) (j := 0) F dJ0_isLatin1_aae02_6 rfl rfl ?_
  refine a_scoder (pc := 7) F hi L1 dJ0_isLatin1_aae02_7 ?_
  refine a_if_ne (pc := 10) (tgt := 17) F dJ0_isLatin1_aae02_10 (by decide) (fun h => absurd rfl h) (fun h => ?_)
  refine a_iconst (pc := 13) (v := 1) F dJ0_isLatin1_aae02_13 (by decide) ?_
  refine a_goto (pc := 14) (tgt := 18) F dJ0_isLatin1_aae02_14 (by decide) ?_
  exact hret _ _ _ _ (Nat.zero_le _) (Nat.zero_le _) rfl dJ0_isLatin1_aae02_18
set_option maxHeartbeats 4000000 in
set_option maxRecDepth 100000 in
theorem c_J0cod (l : Launch) (D : va_G) (y : Nat → ClassId) (ek : EK) (i : Nat) (hi : i < 26) : CI l yJ0_coder_7d493 wJ0_coder_7d493 { frames := 0, cells := 0, slots := 0, locals := 0 } D y ek [.ref (ek.1 i)] [] 0 [] 0 0 := by
  have L0 : Cond.fieldLink RJ0 38 "java/lang/String" "COMPACT_STRINGS" "Z" ∈ wJ0_coder_7d493 := tl q3_132
  have L1 : Cond.fieldLink RJ0 15 "java/lang/String" "coder" "B" ∈ wJ0_coder_7d493 := tl q9_20
  refine ci_of (cc := cJ0_coder_7d493) (maxL := 1) (by decide) rfl rfl (Nat.le_of_ble_eq_true rfl) ?_
  intro p e s m below meth c Q A F hret
  refine a_lv (lv' := [(0, .ref (ek.1 i))]) rfl ?_
  refine a_scompact (pc := 0) F L0 dJ0_coder_7d493_0 ?_
  refine a_if_eq (pc := 3) (tgt := 13) F dJ0_coder_7d493_3 (by decide) (fun h => absurd h (by decide)) (fun h => ?_)
  refine a_aloadn (pc := 6) (j := 0) F dJ0_coder_7d493_6 rfl rfl ?_
  refine a_scoder (pc := 7) F hi L1 dJ0_coder_7d493_7 ?_
  refine a_goto (pc := 10) (tgt := 14) F dJ0_coder_7d493_10 (by decide) ?_
  exact hret _ _ _ _ (Nat.zero_le _) (Nat.zero_le _) rfl dJ0_coder_7d493_14
set_option maxHeartbeats 4000000 in
set_option maxRecDepth 100000 in
theorem c_J0len (l : Launch) (D : va_G) (y : Nat → ClassId) (ek : EK) (i : Nat) (hi : i < 26) : CI l yJ0_length_8abf5 wJ0_length_8abf5 { frames := 1, cells := 0, slots := 0, locals := 22 } D y ek [.ref (ek.1 i)] [] (Int32.ofNat (sLen.getD i 0)) [] 0 0 := by
  have L0 : Cond.fieldLink RJ0 9 "java/lang/String" "value" "[B" ∈ wJ0_length_8abf5 := tl q9_19
  refine ci_of (cc := cJ0_length_8abf5) (maxL := 1) (by decide) rfl rfl (Nat.le_of_ble_eq_true rfl) ?_
  intro p e s m below meth c Q A F hret
  refine a_lv (lv' := [(0, .ref (ek.1 i))]) rfl ?_
  refine a_aloadn (pc := 0) (j := 0) F dJ0_length_8abf5_0 rfl rfl ?_
  refine a_svalue (pc := 1) F hi L0 dJ0_length_8abf5_1 ?_
  refine a_slen (pc := 4) F hi rfl dJ0_length_8abf5_4 ?_
  refine a_aloadn (pc := 5) (j := 0) F dJ0_length_8abf5_5 rfl rfl ?_
  refine a_callStr (pc := 6) F hi (c_J0cod l D y ek i hi) (cwV 0 F.1.2.2.2.2 (gV q3_128 q3_129 q3_130 q1_12 q3_131) rfl rfl rfl (by decide +kernel) ⟨Nat.le_of_ble_eq_true rfl, Nat.le_of_ble_eq_true rfl⟩) rfl rfl (Nat.le_of_ble_eq_true rfl) ⟨Nat.zero_le _, Nat.zero_le _⟩ dJ0_length_8abf5_6 ?_
  refine a_ishr (pc := 9) F dJ0_length_8abf5_9 ?_
  refine a_nmi (sb_shr0 _).symm ?_
  exact hret _ _ _ _ (Nat.zero_le _) (Nat.zero_le _) rfl dJ0_length_8abf5_10
set_option maxHeartbeats 4000000 in
set_option maxRecDepth 100000 in
theorem c_J0ch (l : Launch) (D : va_G) (y : Nat → ClassId) (ek : EK) (i : Nat) (k : Int32) (hi : i < 26) (hk : ix k (sLen.getD i 0)) : CI l yJ0_charAt_5068e wJ0_charAt_5068e { frames := 3, cells := 0, slots := 0, locals := 64 } D y ek [.ref (ek.1 i), .int k] [] (s_ch i k) [] 0 0 := by
  have L0 : Cond.fieldLink RJ0 9 "java/lang/String" "value" "[B" ∈ wJ0_charAt_5068e := tl q9_19
  refine ci_of (cc := cJ0_charAt_5068e) (maxL := 2) (by decide) rfl rfl (Nat.le_of_ble_eq_true rfl) ?_
  intro p e s m below meth c Q A F hret
  refine a_lv (lv' := [(0, .ref (ek.1 i)), (1, .int k)]) rfl ?_
  refine a_aloadn (pc := 0) (j := 0) F dJ0_charAt_5068e_0 rfl rfl ?_
  refine a_callStr (pc := 1) F hi (c_J0lat l D y ek i hi) (cwV 0 F.1.2.2.2.2 (gV q3_138 q3_139 q3_140 q1_12 q3_141) rfl rfl rfl (by decide +kernel) ⟨Nat.le_of_ble_eq_true rfl, Nat.le_of_ble_eq_true rfl⟩) rfl rfl (Nat.le_of_ble_eq_true rfl) ⟨Nat.zero_le _, Nat.zero_le _⟩ dJ0_charAt_5068e_1 ?_
  refine a_if_eq (pc := 4) (tgt := 16) F dJ0_charAt_5068e_4 (by decide) (fun h => absurd h (by decide)) (fun h => ?_)
  refine a_aloadn (pc := 7) (j := 0) F dJ0_charAt_5068e_7 rfl rfl ?_
  refine a_svalue (pc := 8) F hi L0 dJ0_charAt_5068e_8 ?_
  refine a_iloadn (pc := 11) (j := 1) F dJ0_charAt_5068e_11 rfl rfl ?_
  refine a_callS (pc := 12) (bs' := []) F [] (c_J1ch l D y ek i k hi hk) (va_cwS 2 F.1.2.2.2.2 (gS q3_142 q3_143 q1_13 q3_144) rfl rfl rfl (by decide +kernel) ⟨Nat.le_of_ble_eq_true rfl, Nat.le_of_ble_eq_true rfl⟩) (by decide) rfl rfl rfl rfl rfl rfl (Nat.le_of_ble_eq_true rfl) ⟨Nat.zero_le _, Nat.zero_le _⟩ dJ0_charAt_5068e_12 ?_
  exact hret _ _ _ _ (Nat.zero_le _) (Nat.zero_le _) (sc_nar _) dJ0_charAt_5068e_15

