abbrev wX11_hill : List Cond := Cond.code yX11_hill cX11_hill 1 (some .int) :: WALL
def m_X11_hill (n : Nat) (v0 : St) (v1 : St) (v2 : St) (v3 : St) (v4 : St) (v5 : St) (v6 : St) : Option ((Int32 × St × St × St × St × St × St) ⊕ (Nat × St × St × St × St × St × St)) :=
bd (m_X11_useTapeUp n v0) (fun t1 =>
bd (m_X10_split n v2 v1 t1.1) (fun t2 =>
bd (m_X3_copyFrom n v5 v4) (fun t3 =>
bd (m_X9_read_X4 n v3 t2 t3) (fun t4 =>
nm (su t1.2 2 0 t4.1) (fun u5 =>
(if (u5 2 0) = (-1) then
(if (u5 6 0) < 12 then
nm (su u5 6 0 ((u5 6 0) + 1)) (fun u6 =>
bd (m_X3_weigh n t4.2.2) (fun t7 =>
bd (m_X3_copyFrom n v4 t7) (fun t8 =>
bd (m_X8_forget n v6) (fun t9 =>
some (Sum.inl ((u6 6 0), u6, t2, t4.2.1, t8, t7, t9))))))
else
some (Sum.inr (1, u5, t2, t4.2.1, v4, t4.2.2, v6)))
else
some (Sum.inr (0, u5, t2, t4.2.1, v4, t4.2.2, v6))))))))
set_option maxHeartbeats 4000000 in
set_option maxRecDepth 100000 in
theorem c_X11_hill (l : Launch) (D : va_G) (y : Nat → ClassId) (ek : EK) (n : Nat) (a0 : Nat → Nat) (a1 : Nat → Nat) (a2 : Nat → Nat) (a3 : Nat → Nat) (a4 : Nat → Nat) (a5 : Nat → Nat) (a6 : Nat → Nat) (z0_lawReader : Nat) (z0_rules : Nat) (z0_diary : Nat) (z0_draft : Nat) (z0_spareDiary : Nat) (z0_guess : Nat) (z0_imageHill : Nat) (z0_imageRules : Nat) (z0_imageDiary : Nat) (z6_hills : Nat → Nat → Nat) (z6_diaries : Nat → Nat → Nat) (v0 : St) (v1 : St) (v2 : St) (v3 : St) (v4 : St) (v5 : St) (v6 : St) (res : Int32 × St × St × St × St × St × St) (hf : m_X11_hill n v0 v1 v2 v3 v4 v5 v6 = some (Sum.inl res)) : CI l yX11_hill wX11_hill { frames := 7, cells := 0, slots := 0, locals := 162 } D y ek [.ref (a0 0)] [bX11 y a0 (a1 0) (a2 0) (a3 0) z0_lawReader (a4 0) z0_rules z0_diary (a5 0) z0_draft z0_spareDiary z0_guess (a6 0) z0_imageHill z0_imageRules z0_imageDiary v0, bAB400 y a1 v1, bX10 y a2 v2, bX4 y a3 (a2 0) (a5 0) v3, bX3 y a4 v4, bX3 y a5 v5, bX8 y a6 z6_hills z6_diaries v6] (res.1) [bX11 y a0 (a1 0) (a2 0) (a3 0) z0_lawReader (a4 0) z0_rules z0_diary (a5 0) z0_draft z0_spareDiary z0_guess (a6 0) z0_imageHill z0_imageRules z0_imageDiary res.2.1, bAB400 y a1 v1, bX10 y a2 res.2.2.1, bX4 y a3 (a2 0) (a5 0) res.2.2.2.1, bX3 y a4 res.2.2.2.2.1, bX3 y a5 res.2.2.2.2.2.1, bX8 y a6 z6_hills z6_diaries res.2.2.2.2.2.2] 0 0 := by
  unfold m_X11_hill at hf
  refine ci_of (cc := cX11_hill) (maxL := 1) (by decide) rfl rfl (Nat.le_of_ble_eq_true rfl) ?_
  intro p e s m below meth c Q A F hret
  refine a_lv (lv' := [(0, .ref (a0 0))]) rfl ?_
  refine a_aloadn (pc := 0) (j := 0) F dX11_hill_0 rfl rfl ?_
  refine a_get (pc := 1) (kb := 0) (j := 0) (f := 3) F iW_X11 rfl rfl rfl (by decide) (tl q2_59) (fun _ h => h) rfl dX11_hill_1 ?_
  refine a_aloadn (pc := 4) (j := 0) F dX11_hill_4 rfl rfl ?_
  refine a_get (pc := 5) (kb := 0) (j := 0) (f := 0) F iW_X11 rfl rfl rfl (by decide) (tl q2_56) (fun _ h => h) rfl dX11_hill_5 ?_
  refine a_aloadn (pc := 8) (j := 0) F dX11_hill_8 rfl rfl ?_
  obtain ⟨t1, ht1, hf⟩ := bd_some hf
  refine a_callV (pc := 9) (bs' := [bX11 y a0 (a1 0) (a2 0) (a3 0) z0_lawReader (a4 0) z0_rules z0_diary (a5 0) z0_draft z0_spareDiary z0_guess (a6 0) z0_imageHill z0_imageRules z0_imageDiary t1.2, bAB400 y a1 v1, bX10 y a2 v2, bX4 y a3 (a2 0) (a5 0) v3, bX3 y a4 v4, bX3 y a5 v5, bX8 y a6 z6_hills z6_diaries v6]) (kb := 0) (j := 0) F [0] (c_X11_useTapeUp l D y ek n a0 (a1 0) (a2 0) (a3 0) z0_lawReader (a4 0) z0_rules z0_diary (a5 0) z0_draft z0_spareDiary z0_guess (a6 0) z0_imageHill z0_imageRules z0_imageDiary _ _ ht1) (cwV 0 F.1.2.2.2.2 (gV q3_102 q3_104 qs_4 q1_1 q3_105) rfl rfl rfl (by decide +kernel) ⟨Nat.le_of_ble_eq_true rfl, Nat.le_of_ble_eq_true rfl⟩) rfl rfl rfl rfl (by decide) rfl rfl rfl rfl rfl rfl (Nat.le_of_ble_eq_true rfl) ⟨Nat.zero_le _, Nat.zero_le _⟩ dX11_hill_9 ?_
  obtain ⟨t2, ht2, hf⟩ := bd_some hf
  refine a_callVv (pc := 12) (bs' := [bX11 y a0 (a1 0) (a2 0) (a3 0) z0_lawReader (a4 0) z0_rules z0_diary (a5 0) z0_draft z0_spareDiary z0_guess (a6 0) z0_imageHill z0_imageRules z0_imageDiary t1.2, bAB400 y a1 v1, bX10 y a2 t2, bX4 y a3 (a2 0) (a5 0) v3, bX3 y a4 v4, bX3 y a5 v5, bX8 y a6 z6_hills z6_diaries v6]) (kb := 2) (j := 0) F [2, 1] (c_X10_split l D y ek n a2 a1 _ _ _ _ ht2) (cwV 2 F.1.2.2.2.2 (gV q3_106 q3_107 q3_108 q1_2 q3_109) rfl rfl rfl (by decide +kernel) ⟨Nat.le_of_ble_eq_true rfl, Nat.le_of_ble_eq_true rfl⟩) rfl rfl rfl rfl (by decide) rfl rfl rfl rfl rfl rfl (Nat.le_of_ble_eq_true rfl) ⟨Nat.zero_le _, Nat.zero_le _⟩ dX11_hill_12 ?_
  refine a_aloadn (pc := 15) (j := 0) F dX11_hill_15 rfl rfl ?_
  refine a_get (pc := 16) (kb := 0) (j := 0) (f := 10) F iW_X11 rfl rfl rfl (by decide) (tl q2_66) (fun _ h => h) rfl dX11_hill_16 ?_
  refine a_aloadn (pc := 19) (j := 0) F dX11_hill_19 rfl rfl ?_
  refine a_get (pc := 20) (kb := 0) (j := 0) (f := 7) F iW_X11 rfl rfl rfl (by decide) (tl q2_63) (fun _ h => h) rfl dX11_hill_20 ?_
  obtain ⟨t3, ht3, hf⟩ := bd_some hf
  refine a_callVv (pc := 23) (bs' := [bX11 y a0 (a1 0) (a2 0) (a3 0) z0_lawReader (a4 0) z0_rules z0_diary (a5 0) z0_draft z0_spareDiary z0_guess (a6 0) z0_imageHill z0_imageRules z0_imageDiary t1.2, bAB400 y a1 v1, bX10 y a2 t2, bX4 y a3 (a2 0) (a5 0) v3, bX3 y a4 v4, bX3 y a5 t3, bX8 y a6 z6_hills z6_diaries v6]) (kb := 5) (j := 0) F [5, 4] (c_X3_copyFrom l D y ek n a5 a4 _ _ _ ht3) (cwV 1 F.1.2.2.2.2 (gV q2_197 q2_142 q2_143 q1_3 q2_144) rfl rfl rfl (by decide +kernel) ⟨Nat.le_of_ble_eq_true rfl, Nat.le_of_ble_eq_true rfl⟩) rfl rfl rfl rfl (by decide) rfl rfl rfl rfl rfl rfl (Nat.le_of_ble_eq_true rfl) ⟨Nat.zero_le _, Nat.zero_le _⟩ dX11_hill_23 ?_
  refine a_aloadn (pc := 26) (j := 0) F dX11_hill_26 rfl rfl ?_
  refine a_aloadn (pc := 27) (j := 0) F dX11_hill_27 rfl rfl ?_
  refine a_get (pc := 28) (kb := 0) (j := 0) (f := 4) F iW_X11 rfl rfl rfl (by decide) (tl q2_60) (fun _ h => h) rfl dX11_hill_28 ?_
  obtain ⟨t4, ht4, hf⟩ := bd_some hf
  refine a_callU (pc := 31) (bs' := [bX11 y a0 (a1 0) (a2 0) (a3 0) z0_lawReader (a4 0) z0_rules z0_diary (a5 0) z0_draft z0_spareDiary z0_guess (a6 0) z0_imageHill z0_imageRules z0_imageDiary t1.2, bAB400 y a1 v1, bX10 y a2 t2, bX4 y a3 (a2 0) (a5 0) t4.2.1, bX3 y a4 v4, bX3 y a5 t4.2.2, bX8 y a6 z6_hills z6_diaries v6]) (kb := 3) (j := 0) F [3, 2, 5] (c_X9_read_X4 l D y ek n a3 a2 a5 _ _ _ _ ht4) (va_cwU 0 F.1.2.2.2.2 (gU q3_185 q3_186 q3_188 q3_189 q1_6 q3_190) rfl rfl rfl rfl (by decide +kernel) ⟨Nat.le_of_ble_eq_true rfl, Nat.le_of_ble_eq_true rfl⟩) rfl rfl rfl rfl (by decide) rfl rfl rfl rfl rfl rfl (Nat.le_of_ble_eq_true rfl) ⟨Nat.zero_le _, Nat.zero_le _⟩ dX11_hill_31 ?_
  obtain ⟨u5, eu5, hf⟩ := nm_some hf
  refine a_put (pc := 34) (kb := 0) (j := 0) (f := 2) (ty := .int) (bs' := [bX11 y a0 (a1 0) (a2 0) (a3 0) z0_lawReader (a4 0) z0_rules z0_diary (a5 0) z0_draft z0_spareDiary z0_guess (a6 0) z0_imageHill z0_imageRules z0_imageDiary u5, bAB400 y a1 v1, bX10 y a2 t2, bX4 y a3 (a2 0) (a5 0) t4.2.1, bX3 y a4 v4, bX3 y a5 t4.2.2, bX8 y a6 z6_hills z6_diaries v6]) F iW_X11 rfl rfl rfl (by decide) (tl q2_58) (fun _ h => h) tyX11 tyX11_ok nmX11 rfl rfl rfl rfl (Nat.le_of_ble_eq_true rfl) (by rw [eu5]; rfl) dX11_hill_34 ?_
  refine a_aloadn (pc := 37) (j := 0) F dX11_hill_37 rfl rfl ?_
  refine a_get (pc := 38) (kb := 0) (j := 0) (f := 2) F iW_X11 rfl rfl rfl (by decide) (tl q2_58) (fun _ h => h) rfl dX11_hill_38 ?_
  refine a_iconst (pc := 41) F dX11_hill_41 kc_m1 ?_
  refine a_icmp_eq (pc := 42) (tgt := 53) F dX11_hill_42 (by decide) (fun h => ?_) (fun h => ?_)
  · replace hf := it_pos h hf
    refine a_aloadn (pc := 53) (j := 0) F dX11_hill_53 rfl rfl ?_
    refine a_get (pc := 54) (kb := 0) (j := 0) (f := 6) F iW_X11 rfl rfl rfl (by decide) (tl q2_62) (fun _ h => h) rfl dX11_hill_54 ?_
    refine a_bipush (pc := 57) F dX11_hill_57 kb_12 ?_
    refine a_icmp_lt (pc := 59) (tgt := 70) F dX11_hill_59 (by decide) (fun h => ?_) (fun h => ?_)
    · replace hf := it_pos h hf
      refine a_aloadn (pc := 70) (j := 0) F dX11_hill_70 rfl rfl ?_
      refine a_dup (pc := 71) F dX11_hill_71 rfl ?_
      refine a_get (pc := 72) (kb := 0) (j := 0) (f := 6) F iW_X11 rfl rfl rfl (by decide) (tl q2_62) (fun _ h => h) rfl dX11_hill_72 ?_
      refine a_iconst (pc := 75) F dX11_hill_75 kc_1 ?_
      refine a_iadd (pc := 76) F dX11_hill_76 ?_
      obtain ⟨u6, eu6, hf⟩ := nm_some hf
      refine a_put (pc := 77) (kb := 0) (j := 0) (f := 6) (ty := .int) (bs' := [bX11 y a0 (a1 0) (a2 0) (a3 0) z0_lawReader (a4 0) z0_rules z0_diary (a5 0) z0_draft z0_spareDiary z0_guess (a6 0) z0_imageHill z0_imageRules z0_imageDiary u6, bAB400 y a1 v1, bX10 y a2 t2, bX4 y a3 (a2 0) (a5 0) t4.2.1, bX3 y a4 v4, bX3 y a5 t4.2.2, bX8 y a6 z6_hills z6_diaries v6]) F iW_X11 rfl rfl rfl (by decide) (tl q2_62) (fun _ h => h) tyX11 tyX11_ok nmX11 rfl rfl rfl rfl (Nat.le_of_ble_eq_true rfl) (by rw [eu6]; rfl) dX11_hill_77 ?_
      refine a_aloadn (pc := 80) (j := 0) F dX11_hill_80 rfl rfl ?_
      refine a_get (pc := 81) (kb := 0) (j := 0) (f := 10) F iW_X11 rfl rfl rfl (by decide) (tl q2_66) (fun _ h => h) rfl dX11_hill_81 ?_
      obtain ⟨t7, ht7, hf⟩ := bd_some hf
      refine a_callVv (pc := 84) (bs' := [bX11 y a0 (a1 0) (a2 0) (a3 0) z0_lawReader (a4 0) z0_rules z0_diary (a5 0) z0_draft z0_spareDiary z0_guess (a6 0) z0_imageHill z0_imageRules z0_imageDiary u6, bAB400 y a1 v1, bX10 y a2 t2, bX4 y a3 (a2 0) (a5 0) t4.2.1, bX3 y a4 v4, bX3 y a5 t7, bX8 y a6 z6_hills z6_diaries v6]) (kb := 5) (j := 0) F [5] (c_X3_weigh l D y ek n a5 _ _ ht7) (cwV 0 F.1.2.2.2.2 (gV q2_153 q2_154 q2_155 q1_3 q2_156) rfl rfl rfl (by decide +kernel) ⟨Nat.le_of_ble_eq_true rfl, Nat.le_of_ble_eq_true rfl⟩) rfl rfl rfl rfl (by decide) rfl rfl rfl rfl rfl rfl (Nat.le_of_ble_eq_true rfl) ⟨Nat.zero_le _, Nat.zero_le _⟩ dX11_hill_84 ?_
      refine a_aloadn (pc := 87) (j := 0) F dX11_hill_87 rfl rfl ?_
      refine a_get (pc := 88) (kb := 0) (j := 0) (f := 7) F iW_X11 rfl rfl rfl (by decide) (tl q2_63) (fun _ h => h) rfl dX11_hill_88 ?_
      refine a_aloadn (pc := 91) (j := 0) F dX11_hill_91 rfl rfl ?_
      refine a_get (pc := 92) (kb := 0) (j := 0) (f := 10) F iW_X11 rfl rfl rfl (by decide) (tl q2_66) (fun _ h => h) rfl dX11_hill_92 ?_
      obtain ⟨t8, ht8, hf⟩ := bd_some hf
      refine a_callVv (pc := 95) (bs' := [bX11 y a0 (a1 0) (a2 0) (a3 0) z0_lawReader (a4 0) z0_rules z0_diary (a5 0) z0_draft z0_spareDiary z0_guess (a6 0) z0_imageHill z0_imageRules z0_imageDiary u6, bAB400 y a1 v1, bX10 y a2 t2, bX4 y a3 (a2 0) (a5 0) t4.2.1, bX3 y a4 t8, bX3 y a5 t7, bX8 y a6 z6_hills z6_diaries v6]) (kb := 4) (j := 0) F [4, 5] (c_X3_copyFrom l D y ek n a4 a5 _ _ _ ht8) (cwV 1 F.1.2.2.2.2 (gV q2_197 q2_142 q2_143 q1_3 q2_144) rfl rfl rfl (by decide +kernel) ⟨Nat.le_of_ble_eq_true rfl, Nat.le_of_ble_eq_true rfl⟩) rfl rfl rfl rfl (by decide) rfl rfl rfl rfl rfl rfl (Nat.le_of_ble_eq_true rfl) ⟨Nat.zero_le _, Nat.zero_le _⟩ dX11_hill_95 ?_
      refine a_aloadn (pc := 98) (j := 0) F dX11_hill_98 rfl rfl ?_
      refine a_get (pc := 99) (kb := 0) (j := 0) (f := 14) F iW_X11 rfl rfl rfl (by decide) (tl q2_70) (fun _ h => h) rfl dX11_hill_99 ?_
      obtain ⟨t9, ht9, hf⟩ := bd_some hf
      refine a_callVv (pc := 102) (bs' := [bX11 y a0 (a1 0) (a2 0) (a3 0) z0_lawReader (a4 0) z0_rules z0_diary (a5 0) z0_draft z0_spareDiary z0_guess (a6 0) z0_imageHill z0_imageRules z0_imageDiary u6, bAB400 y a1 v1, bX10 y a2 t2, bX4 y a3 (a2 0) (a5 0) t4.2.1, bX3 y a4 t8, bX3 y a5 t7, bX8 y a6 z6_hills z6_diaries t9]) (kb := 6) (j := 0) F [6] (c_X8_forget l D y ek n a6 z6_hills z6_diaries _ _ ht9) (cwV 0 F.1.2.2.2.2 (gV q3_69 q3_70 q3_71 q1_10 q3_72) rfl rfl rfl (by decide +kernel) ⟨Nat.le_of_ble_eq_true rfl, Nat.le_of_ble_eq_true rfl⟩) rfl rfl rfl rfl (by decide) rfl rfl rfl rfl rfl rfl (Nat.le_of_ble_eq_true rfl) ⟨Nat.zero_le _, Nat.zero_le _⟩ dX11_hill_102 ?_
      refine a_aloadn (pc := 105) (j := 0) F dX11_hill_105 rfl rfl ?_
      refine a_get (pc := 106) (kb := 0) (j := 0) (f := 6) F iW_X11 rfl rfl rfl (by decide) (tl q2_62) (fun _ h => h) rfl dX11_hill_106 ?_
      obtain rfl := Sum.inl.inj (Option.some.inj hf)
      exact hret _ _ _ _ (Nat.zero_le _) (Nat.zero_le _) rfl dX11_hill_109
    · replace hf := it_neg h hf
      exact absurd hf (by simp)
  · replace hf := it_neg h hf
    exact absurd hf (by simp)
set_option maxHeartbeats 4000000 in
set_option maxRecDepth 100000 in
theorem x_X11_hill (l : Launch) (hlt : l.stackTraces = false) (D : va_G) (y : Nat → ClassId) (ek : EK) (n : Nat) (a0 : Nat → Nat) (a1 : Nat → Nat) (a2 : Nat → Nat) (a3 : Nat → Nat) (a4 : Nat → Nat) (a5 : Nat → Nat) (a6 : Nat → Nat) (z0_lawReader : Nat) (z0_rules : Nat) (z0_diary : Nat) (z0_draft : Nat) (z0_spareDiary : Nat) (z0_guess : Nat) (z0_imageHill : Nat) (z0_imageRules : Nat) (z0_imageDiary : Nat) (z6_hills : Nat → Nat → Nat) (z6_diaries : Nat → Nat → Nat) (v0 : St) (v1 : St) (v2 : St) (v3 : St) (v4 : St) (v5 : St) (v6 : St) (res : Nat × St × St × St × St × St × St) (hf : m_X11_hill n v0 v1 v2 v3 v4 v5 v6 = some (Sum.inr res)) : CX l yX11_hill wX11_hill { frames := 7, cells := 1, slots := 6, locals := 162 } D y ek [.ref (a0 0)] [bX11 y a0 (a1 0) (a2 0) (a3 0) z0_lawReader (a4 0) z0_rules z0_diary (a5 0) z0_draft z0_spareDiary z0_guess (a6 0) z0_imageHill z0_imageRules z0_imageDiary v0, bAB400 y a1 v1, bX10 y a2 v2, bX4 y a3 (a2 0) (a5 0) v3, bX3 y a4 v4, bX3 y a5 v5, bX8 y a6 z6_hills z6_diaries v6] (eX.getD res.1 "") [bX11 y a0 (a1 0) (a2 0) (a3 0) z0_lawReader (a4 0) z0_rules z0_diary (a5 0) z0_draft z0_spareDiary z0_guess (a6 0) z0_imageHill z0_imageRules z0_imageDiary res.2.1, bAB400 y a1 v1, bX10 y a2 res.2.2.1, bX4 y a3 (a2 0) (a5 0) res.2.2.2.1, bX3 y a4 res.2.2.2.2.1, bX3 y a5 res.2.2.2.2.2.1, bX8 y a6 z6_hills z6_diaries res.2.2.2.2.2.2] 1 6 := by
  unfold m_X11_hill at hf
  refine cx_of (cc := cX11_hill) (maxL := 1) hlt (by decide) rfl (Nat.le_of_ble_eq_true rfl) (Nat.le_refl 1) (Nat.le_refl 6) ?_
  intro p e s m below meth c Q A F hthr hout
  refine a_lv (lv' := [(0, .ref (a0 0))]) rfl ?_
  refine a_aloadn (pc := 0) (j := 0) F dX11_hill_0 rfl rfl ?_
  refine a_get (pc := 1) (kb := 0) (j := 0) (f := 3) F iW_X11 rfl rfl rfl (by decide) (tl q2_59) (fun _ h => h) rfl dX11_hill_1 ?_
  refine a_aloadn (pc := 4) (j := 0) F dX11_hill_4 rfl rfl ?_
  refine a_get (pc := 5) (kb := 0) (j := 0) (f := 0) F iW_X11 rfl rfl rfl (by decide) (tl q2_56) (fun _ h => h) rfl dX11_hill_5 ?_
  refine a_aloadn (pc := 8) (j := 0) F dX11_hill_8 rfl rfl ?_
  obtain ⟨t1, ht1, hf⟩ := bd_some hf
  refine a_callV (pc := 9) (bs' := [bX11 y a0 (a1 0) (a2 0) (a3 0) z0_lawReader (a4 0) z0_rules z0_diary (a5 0) z0_draft z0_spareDiary z0_guess (a6 0) z0_imageHill z0_imageRules z0_imageDiary t1.2, bAB400 y a1 v1, bX10 y a2 v2, bX4 y a3 (a2 0) (a5 0) v3, bX3 y a4 v4, bX3 y a5 v5, bX8 y a6 z6_hills z6_diaries v6]) (kb := 0) (j := 0) F [0] (c_X11_useTapeUp l D y ek n a0 (a1 0) (a2 0) (a3 0) z0_lawReader (a4 0) z0_rules z0_diary (a5 0) z0_draft z0_spareDiary z0_guess (a6 0) z0_imageHill z0_imageRules z0_imageDiary _ _ ht1) (cwV 0 F.1.2.2.2.2 (gV q3_102 q3_104 qs_4 q1_1 q3_105) rfl rfl rfl (by decide +kernel) ⟨Nat.le_of_ble_eq_true rfl, Nat.le_of_ble_eq_true rfl⟩) rfl rfl rfl rfl (by decide) rfl rfl rfl rfl rfl rfl (Nat.le_of_ble_eq_true rfl) ⟨Nat.zero_le _, Nat.zero_le _⟩ dX11_hill_9 ?_
  obtain ⟨t2, ht2, hf⟩ := bd_some hf
  refine a_callVv (pc := 12) (bs' := [bX11 y a0 (a1 0) (a2 0) (a3 0) z0_lawReader (a4 0) z0_rules z0_diary (a5 0) z0_draft z0_spareDiary z0_guess (a6 0) z0_imageHill z0_imageRules z0_imageDiary t1.2, bAB400 y a1 v1, bX10 y a2 t2, bX4 y a3 (a2 0) (a5 0) v3, bX3 y a4 v4, bX3 y a5 v5, bX8 y a6 z6_hills z6_diaries v6]) (kb := 2) (j := 0) F [2, 1] (c_X10_split l D y ek n a2 a1 _ _ _ _ ht2) (cwV 2 F.1.2.2.2.2 (gV q3_106 q3_107 q3_108 q1_2 q3_109) rfl rfl rfl (by decide +kernel) ⟨Nat.le_of_ble_eq_true rfl, Nat.le_of_ble_eq_true rfl⟩) rfl rfl rfl rfl (by decide) rfl rfl rfl rfl rfl rfl (Nat.le_of_ble_eq_true rfl) ⟨Nat.zero_le _, Nat.zero_le _⟩ dX11_hill_12 ?_
  refine a_aloadn (pc := 15) (j := 0) F dX11_hill_15 rfl rfl ?_
  refine a_get (pc := 16) (kb := 0) (j := 0) (f := 10) F iW_X11 rfl rfl rfl (by decide) (tl q2_66) (fun _ h => h) rfl dX11_hill_16 ?_
  refine a_aloadn (pc := 19) (j := 0) F dX11_hill_19 rfl rfl ?_
  refine a_get (pc := 20) (kb := 0) (j := 0) (f := 7) F iW_X11 rfl rfl rfl (by decide) (tl q2_63) (fun _ h => h) rfl dX11_hill_20 ?_
  obtain ⟨t3, ht3, hf⟩ := bd_some hf
  refine a_callVv (pc := 23) (bs' := [bX11 y a0 (a1 0) (a2 0) (a3 0) z0_lawReader (a4 0) z0_rules z0_diary (a5 0) z0_draft z0_spareDiary z0_guess (a6 0) z0_imageHill z0_imageRules z0_imageDiary t1.2, bAB400 y a1 v1, bX10 y a2 t2, bX4 y a3 (a2 0) (a5 0) v3, bX3 y a4 v4, bX3 y a5 t3, bX8 y a6 z6_hills z6_diaries v6]) (kb := 5) (j := 0) F [5, 4] (c_X3_copyFrom l D y ek n a5 a4 _ _ _ ht3) (cwV 1 F.1.2.2.2.2 (gV q2_197 q2_142 q2_143 q1_3 q2_144) rfl rfl rfl (by decide +kernel) ⟨Nat.le_of_ble_eq_true rfl, Nat.le_of_ble_eq_true rfl⟩) rfl rfl rfl rfl (by decide) rfl rfl rfl rfl rfl rfl (Nat.le_of_ble_eq_true rfl) ⟨Nat.zero_le _, Nat.zero_le _⟩ dX11_hill_23 ?_
  refine a_aloadn (pc := 26) (j := 0) F dX11_hill_26 rfl rfl ?_
  refine a_aloadn (pc := 27) (j := 0) F dX11_hill_27 rfl rfl ?_
  refine a_get (pc := 28) (kb := 0) (j := 0) (f := 4) F iW_X11 rfl rfl rfl (by decide) (tl q2_60) (fun _ h => h) rfl dX11_hill_28 ?_
  obtain ⟨t4, ht4, hf⟩ := bd_some hf
  refine a_callU (pc := 31) (bs' := [bX11 y a0 (a1 0) (a2 0) (a3 0) z0_lawReader (a4 0) z0_rules z0_diary (a5 0) z0_draft z0_spareDiary z0_guess (a6 0) z0_imageHill z0_imageRules z0_imageDiary t1.2, bAB400 y a1 v1, bX10 y a2 t2, bX4 y a3 (a2 0) (a5 0) t4.2.1, bX3 y a4 v4, bX3 y a5 t4.2.2, bX8 y a6 z6_hills z6_diaries v6]) (kb := 3) (j := 0) F [3, 2, 5] (c_X9_read_X4 l D y ek n a3 a2 a5 _ _ _ _ ht4) (va_cwU 0 F.1.2.2.2.2 (gU q3_185 q3_186 q3_188 q3_189 q1_6 q3_190) rfl rfl rfl rfl (by decide +kernel) ⟨Nat.le_of_ble_eq_true rfl, Nat.le_of_ble_eq_true rfl⟩) rfl rfl rfl rfl (by decide) rfl rfl rfl rfl rfl rfl (Nat.le_of_ble_eq_true rfl) ⟨Nat.zero_le _, Nat.zero_le _⟩ dX11_hill_31 ?_
  obtain ⟨u5, eu5, hf⟩ := nm_some hf
  refine a_put (pc := 34) (kb := 0) (j := 0) (f := 2) (ty := .int) (bs' := [bX11 y a0 (a1 0) (a2 0) (a3 0) z0_lawReader (a4 0) z0_rules z0_diary (a5 0) z0_draft z0_spareDiary z0_guess (a6 0) z0_imageHill z0_imageRules z0_imageDiary u5, bAB400 y a1 v1, bX10 y a2 t2, bX4 y a3 (a2 0) (a5 0) t4.2.1, bX3 y a4 v4, bX3 y a5 t4.2.2, bX8 y a6 z6_hills z6_diaries v6]) F iW_X11 rfl rfl rfl (by decide) (tl q2_58) (fun _ h => h) tyX11 tyX11_ok nmX11 rfl rfl rfl rfl (Nat.le_of_ble_eq_true rfl) (by rw [eu5]; rfl) dX11_hill_34 ?_
  refine a_aloadn (pc := 37) (j := 0) F dX11_hill_37 rfl rfl ?_
  refine a_get (pc := 38) (kb := 0) (j := 0) (f := 2) F iW_X11 rfl rfl rfl (by decide) (tl q2_58) (fun _ h => h) rfl dX11_hill_38 ?_
  refine a_iconst (pc := 41) F dX11_hill_41 kc_m1 ?_
  refine a_icmp_eq (pc := 42) (tgt := 53) F dX11_hill_42 (by decide) (fun h => ?_) (fun h => ?_)
  · replace hf := it_pos h hf
    refine a_aloadn (pc := 53) (j := 0) F dX11_hill_53 rfl rfl ?_
    refine a_get (pc := 54) (kb := 0) (j := 0) (f := 6) F iW_X11 rfl rfl rfl (by decide) (tl q2_62) (fun _ h => h) rfl dX11_hill_54 ?_
    refine a_bipush (pc := 57) F dX11_hill_57 kb_12 ?_
    refine a_icmp_lt (pc := 59) (tgt := 70) F dX11_hill_59 (by decide) (fun h => ?_) (fun h => ?_)
    · replace hf := it_pos h hf
      refine a_aloadn (pc := 70) (j := 0) F dX11_hill_70 rfl rfl ?_
      refine a_dup (pc := 71) F dX11_hill_71 rfl ?_
      refine a_get (pc := 72) (kb := 0) (j := 0) (f := 6) F iW_X11 rfl rfl rfl (by decide) (tl q2_62) (fun _ h => h) rfl dX11_hill_72 ?_
      refine a_iconst (pc := 75) F dX11_hill_75 kc_1 ?_
      refine a_iadd (pc := 76) F dX11_hill_76 ?_
      obtain ⟨u6, eu6, hf⟩ := nm_some hf
      refine a_put (pc := 77) (kb := 0) (j := 0) (f := 6) (ty := .int) (bs' := [bX11 y a0 (a1 0) (a2 0) (a3 0) z0_lawReader (a4 0) z0_rules z0_diary (a5 0) z0_draft z0_spareDiary z0_guess (a6 0) z0_imageHill z0_imageRules z0_imageDiary u6, bAB400 y a1 v1, bX10 y a2 t2, bX4 y a3 (a2 0) (a5 0) t4.2.1, bX3 y a4 v4, bX3 y a5 t4.2.2, bX8 y a6 z6_hills z6_diaries v6]) F iW_X11 rfl rfl rfl (by decide) (tl q2_62) (fun _ h => h) tyX11 tyX11_ok nmX11 rfl rfl rfl rfl (Nat.le_of_ble_eq_true rfl) (by rw [eu6]; rfl) dX11_hill_77 ?_
      refine a_aloadn (pc := 80) (j := 0) F dX11_hill_80 rfl rfl ?_
      refine a_get (pc := 81) (kb := 0) (j := 0) (f := 10) F iW_X11 rfl rfl rfl (by decide) (tl q2_66) (fun _ h => h) rfl dX11_hill_81 ?_
      obtain ⟨t7, ht7, hf⟩ := bd_some hf
      refine a_callVv (pc := 84) (bs' := [bX11 y a0 (a1 0) (a2 0) (a3 0) z0_lawReader (a4 0) z0_rules z0_diary (a5 0) z0_draft z0_spareDiary z0_guess (a6 0) z0_imageHill z0_imageRules z0_imageDiary u6, bAB400 y a1 v1, bX10 y a2 t2, bX4 y a3 (a2 0) (a5 0) t4.2.1, bX3 y a4 v4, bX3 y a5 t7, bX8 y a6 z6_hills z6_diaries v6]) (kb := 5) (j := 0) F [5] (c_X3_weigh l D y ek n a5 _ _ ht7) (cwV 0 F.1.2.2.2.2 (gV q2_153 q2_154 q2_155 q1_3 q2_156) rfl rfl rfl (by decide +kernel) ⟨Nat.le_of_ble_eq_true rfl, Nat.le_of_ble_eq_true rfl⟩) rfl rfl rfl rfl (by decide) rfl rfl rfl rfl rfl rfl (Nat.le_of_ble_eq_true rfl) ⟨Nat.zero_le _, Nat.zero_le _⟩ dX11_hill_84 ?_
      refine a_aloadn (pc := 87) (j := 0) F dX11_hill_87 rfl rfl ?_
      refine a_get (pc := 88) (kb := 0) (j := 0) (f := 7) F iW_X11 rfl rfl rfl (by decide) (tl q2_63) (fun _ h => h) rfl dX11_hill_88 ?_
      refine a_aloadn (pc := 91) (j := 0) F dX11_hill_91 rfl rfl ?_
      refine a_get (pc := 92) (kb := 0) (j := 0) (f := 10) F iW_X11 rfl rfl rfl (by decide) (tl q2_66) (fun _ h => h) rfl dX11_hill_92 ?_
      obtain ⟨t8, ht8, hf⟩ := bd_some hf
      refine a_callVv (pc := 95) (bs' := [bX11 y a0 (a1 0) (a2 0) (a3 0) z0_lawReader (a4 0) z0_rules z0_diary (a5 0) z0_draft z0_spareDiary z0_guess (a6 0) z0_imageHill z0_imageRules z0_imageDiary u6, bAB400 y a1 v1, bX10 y a2 t2, bX4 y a3 (a2 0) (a5 0) t4.2.1, bX3 y a4 t8, bX3 y a5 t7, bX8 y a6 z6_hills z6_diaries v6]) (kb := 4) (j := 0) F [4, 5] (c_X3_copyFrom l D y ek n a4 a5 _ _ _ ht8) (cwV 1 F.1.2.2.2.2 (gV q2_197 q2_142 q2_143 q1_3 q2_144) rfl rfl rfl (by decide +kernel) ⟨Nat.le_of_ble_eq_true rfl, Nat.le_of_ble_eq_true rfl⟩) rfl rfl rfl rfl (by decide) rfl rfl rfl rfl rfl rfl (Nat.le_of_ble_eq_true rfl) ⟨Nat.zero_le _, Nat.zero_le _⟩ dX11_hill_95 ?_
      refine a_aloadn (pc := 98) (j := 0) F dX11_hill_98 rfl rfl ?_
      refine a_get (pc := 99) (kb := 0) (j := 0) (f := 14) F iW_X11 rfl rfl rfl (by decide) (tl q2_70) (fun _ h => h) rfl dX11_hill_99 ?_
      obtain ⟨t9, ht9, hf⟩ := bd_some hf
      refine a_callVv (pc := 102) (bs' := [bX11 y a0 (a1 0) (a2 0) (a3 0) z0_lawReader (a4 0) z0_rules z0_diary (a5 0) z0_draft z0_spareDiary z0_guess (a6 0) z0_imageHill z0_imageRules z0_imageDiary u6, bAB400 y a1 v1, bX10 y a2 t2, bX4 y a3 (a2 0) (a5 0) t4.2.1, bX3 y a4 t8, bX3 y a5 t7, bX8 y a6 z6_hills z6_diaries t9]) (kb := 6) (j := 0) F [6] (c_X8_forget l D y ek n a6 z6_hills z6_diaries _ _ ht9) (cwV 0 F.1.2.2.2.2 (gV q3_69 q3_70 q3_71 q1_10 q3_72) rfl rfl rfl (by decide +kernel) ⟨Nat.le_of_ble_eq_true rfl, Nat.le_of_ble_eq_true rfl⟩) rfl rfl rfl rfl (by decide) rfl rfl rfl rfl rfl rfl (Nat.le_of_ble_eq_true rfl) ⟨Nat.zero_le _, Nat.zero_le _⟩ dX11_hill_102 ?_
      refine a_aloadn (pc := 105) (j := 0) F dX11_hill_105 rfl rfl ?_
      refine a_get (pc := 106) (kb := 0) (j := 0) (f := 6) F iW_X11 rfl rfl rfl (by decide) (tl q2_62) (fun _ h => h) rfl dX11_hill_106 ?_
      exact absurd hf (by simp)
    · replace hf := it_neg h hf
      obtain rfl := Sum.inr.inj (Option.some.inj hf)
      exact hthr 62 130 132 _ _ xw_1 dX11_hill_62 dX11_hill_65 dX11_hill_66 dX11_hill_69 (Nat.le_of_ble_eq_true rfl) (Nat.le_of_ble_eq_true rfl) (Nat.le_of_ble_eq_true rfl) (Nat.le_of_ble_eq_true rfl)
  · replace hf := it_neg h hf
    obtain rfl := Sum.inr.inj (Option.some.inj hf)
    exact hthr 45 127 129 _ _ xw_0 dX11_hill_45 dX11_hill_48 dX11_hill_49 dX11_hill_52 (Nat.le_of_ble_eq_true rfl) (Nat.le_of_ble_eq_true rfl) (Nat.le_of_ble_eq_true rfl) (Nat.le_of_ble_eq_true rfl)

abbrev wX11_law : List Cond := Cond.code yX11_law cX11_law 1 (some .int) :: WALL
def m_X11_law (n : Nat) (v0 : St) (v1 : St) (v2 : St) (v3 : St) (v4 : St) (v5 : St) (v6 : St) : Option ((Int32 × St × St × St × St × St × St) ⊕ (Nat × St × St × St × St × St × St)) :=
bd (m_X11_useTapeUp n v0) (fun t1 =>
bd (m_X10_split n v2 v1 t1.1) (fun t2 =>
bd (m_X5_clear n v5) (fun t3 =>
bd (m_X9_read_X6 n v3 t2 t3) (fun t4 =>
nm (su t1.2 2 0 t4.1) (fun u5 =>
(if (u5 2 0) = (-1) then
bd (m_X5_copyFrom n v4 t4.2.2) (fun t6 =>
bd (m_X8_forget n v6) (fun t7 =>
some (Sum.inl ((t6 0 0), u5, t2, t4.2.1, t6, t4.2.2, t7))))
else
some (Sum.inr (0, u5, t2, t4.2.1, v4, t4.2.2, v6))))))))
set_option maxHeartbeats 4000000 in
set_option maxRecDepth 100000 in
theorem c_X11_law (l : Launch) (D : va_G) (y : Nat → ClassId) (ek : EK) (n : Nat) (a0 : Nat → Nat) (a1 : Nat → Nat) (a2 : Nat → Nat) (a3 : Nat → Nat) (a4 : Nat → Nat) (a5 : Nat → Nat) (a6 : Nat → Nat) (z0_hillReader : Nat) (z0_now : Nat) (z0_diary : Nat) (z0_spare : Nat) (z0_spareDiary : Nat) (z0_guess : Nat) (z0_imageHill : Nat) (z0_imageRules : Nat) (z0_imageDiary : Nat) (z6_hills : Nat → Nat → Nat) (z6_diaries : Nat → Nat → Nat) (v0 : St) (v1 : St) (v2 : St) (v3 : St) (v4 : St) (v5 : St) (v6 : St) (res : Int32 × St × St × St × St × St × St) (hf : m_X11_law n v0 v1 v2 v3 v4 v5 v6 = some (Sum.inl res)) : CI l yX11_law wX11_law { frames := 69, cells := 0, slots := 0, locals := 1581 } D y ek [.ref (a0 0)] [bX11 y a0 (a1 0) (a2 0) z0_hillReader (a3 0) z0_now (a4 0) z0_diary z0_spare (a5 0) z0_spareDiary z0_guess (a6 0) z0_imageHill z0_imageRules z0_imageDiary v0, bAB400 y a1 v1, bX10 y a2 v2, bX6 y a3 (a2 0) (a5 0) v3, bX5 y a4 v4, bX5 y a5 v5, bX8 y a6 z6_hills z6_diaries v6] (res.1) [bX11 y a0 (a1 0) (a2 0) z0_hillReader (a3 0) z0_now (a4 0) z0_diary z0_spare (a5 0) z0_spareDiary z0_guess (a6 0) z0_imageHill z0_imageRules z0_imageDiary res.2.1, bAB400 y a1 v1, bX10 y a2 res.2.2.1, bX6 y a3 (a2 0) (a5 0) res.2.2.2.1, bX5 y a4 res.2.2.2.2.1, bX5 y a5 res.2.2.2.2.2.1, bX8 y a6 z6_hills z6_diaries res.2.2.2.2.2.2] 0 0 := by
  unfold m_X11_law at hf
  refine ci_of (cc := cX11_law) (maxL := 1) (by decide) rfl rfl (Nat.le_of_ble_eq_true rfl) ?_
  intro p e s m below meth c Q A F hret
  refine a_lv (lv' := [(0, .ref (a0 0))]) rfl ?_
  refine a_aloadn (pc := 0) (j := 0) F dX11_law_0 rfl rfl ?_
  refine a_get (pc := 1) (kb := 0) (j := 0) (f := 3) F iW_X11 rfl rfl rfl (by decide) (tl q2_59) (fun _ h => h) rfl dX11_law_1 ?_
  refine a_aloadn (pc := 4) (j := 0) F dX11_law_4 rfl rfl ?_
  refine a_get (pc := 5) (kb := 0) (j := 0) (f := 0) F iW_X11 rfl rfl rfl (by decide) (tl q2_56) (fun _ h => h) rfl dX11_law_5 ?_
  refine a_aloadn (pc := 8) (j := 0) F dX11_law_8 rfl rfl ?_
  obtain ⟨t1, ht1, hf⟩ := bd_some hf
  refine a_callV (pc := 9) (bs' := [bX11 y a0 (a1 0) (a2 0) z0_hillReader (a3 0) z0_now (a4 0) z0_diary z0_spare (a5 0) z0_spareDiary z0_guess (a6 0) z0_imageHill z0_imageRules z0_imageDiary t1.2, bAB400 y a1 v1, bX10 y a2 v2, bX6 y a3 (a2 0) (a5 0) v3, bX5 y a4 v4, bX5 y a5 v5, bX8 y a6 z6_hills z6_diaries v6]) (kb := 0) (j := 0) F [0] (c_X11_useTapeUp l D y ek n a0 (a1 0) (a2 0) z0_hillReader (a3 0) z0_now (a4 0) z0_diary z0_spare (a5 0) z0_spareDiary z0_guess (a6 0) z0_imageHill z0_imageRules z0_imageDiary _ _ ht1) (cwV 0 F.1.2.2.2.2 (gV q3_102 q3_104 qs_4 q1_1 q3_105) rfl rfl rfl (by decide +kernel) ⟨Nat.le_of_ble_eq_true rfl, Nat.le_of_ble_eq_true rfl⟩) rfl rfl rfl rfl (by decide) rfl rfl rfl rfl rfl rfl (Nat.le_of_ble_eq_true rfl) ⟨Nat.zero_le _, Nat.zero_le _⟩ dX11_law_9 ?_
  obtain ⟨t2, ht2, hf⟩ := bd_some hf
  refine a_callVv (pc := 12) (bs' := [bX11 y a0 (a1 0) (a2 0) z0_hillReader (a3 0) z0_now (a4 0) z0_diary z0_spare (a5 0) z0_spareDiary z0_guess (a6 0) z0_imageHill z0_imageRules z0_imageDiary t1.2, bAB400 y a1 v1, bX10 y a2 t2, bX6 y a3 (a2 0) (a5 0) v3, bX5 y a4 v4, bX5 y a5 v5, bX8 y a6 z6_hills z6_diaries v6]) (kb := 2) (j := 0) F [2, 1] (c_X10_split l D y ek n a2 a1 _ _ _ _ ht2) (cwV 2 F.1.2.2.2.2 (gV q3_106 q3_107 q3_108 q1_2 q3_109) rfl rfl rfl (by decide +kernel) ⟨Nat.le_of_ble_eq_true rfl, Nat.le_of_ble_eq_true rfl⟩) rfl rfl rfl rfl (by decide) rfl rfl rfl rfl rfl rfl (Nat.le_of_ble_eq_true rfl) ⟨Nat.zero_le _, Nat.zero_le _⟩ dX11_law_12 ?_
  refine a_aloadn (pc := 15) (j := 0) F dX11_law_15 rfl rfl ?_
  refine a_get (pc := 16) (kb := 0) (j := 0) (f := 11) F iW_X11 rfl rfl rfl (by decide) (tl q2_67) (fun _ h => h) rfl dX11_law_16 ?_
  obtain ⟨t3, ht3, hf⟩ := bd_some hf
  refine a_callVv (pc := 19) (bs' := [bX11 y a0 (a1 0) (a2 0) z0_hillReader (a3 0) z0_now (a4 0) z0_diary z0_spare (a5 0) z0_spareDiary z0_guess (a6 0) z0_imageHill z0_imageRules z0_imageDiary t1.2, bAB400 y a1 v1, bX10 y a2 t2, bX6 y a3 (a2 0) (a5 0) v3, bX5 y a4 v4, bX5 y a5 t3, bX8 y a6 z6_hills z6_diaries v6]) (kb := 5) (j := 0) F [5] (c_X5_clear l D y ek n a5 _ _ ht3) (cwV 0 F.1.2.2.2.2 (gV q4_137 q4_138 q4_139 q1_4 q4_140) rfl rfl rfl (by decide +kernel) ⟨Nat.le_of_ble_eq_true rfl, Nat.le_of_ble_eq_true rfl⟩) rfl rfl rfl rfl (by decide) rfl rfl rfl rfl rfl rfl (Nat.le_of_ble_eq_true rfl) ⟨Nat.zero_le _, Nat.zero_le _⟩ dX11_law_19 ?_
  refine a_aloadn (pc := 22) (j := 0) F dX11_law_22 rfl rfl ?_
  refine a_aloadn (pc := 23) (j := 0) F dX11_law_23 rfl rfl ?_
  refine a_get (pc := 24) (kb := 0) (j := 0) (f := 5) F iW_X11 rfl rfl rfl (by decide) (tl q2_61) (fun _ h => h) rfl dX11_law_24 ?_
  obtain ⟨t4, ht4, hf⟩ := bd_some hf
  refine a_callU (pc := 27) (bs' := [bX11 y a0 (a1 0) (a2 0) z0_hillReader (a3 0) z0_now (a4 0) z0_diary z0_spare (a5 0) z0_spareDiary z0_guess (a6 0) z0_imageHill z0_imageRules z0_imageDiary t1.2, bAB400 y a1 v1, bX10 y a2 t2, bX6 y a3 (a2 0) (a5 0) t4.2.1, bX5 y a4 v4, bX5 y a5 t4.2.2, bX8 y a6 z6_hills z6_diaries v6]) (kb := 3) (j := 0) F [3, 2, 5] (c_X9_read_X6 l D y ek n a3 a2 a5 _ _ _ _ ht4) (va_cwU 0 F.1.2.2.2.2 (gU q4_141 q4_142 q4_143 q3_189 q1_6 q3_190) rfl rfl rfl rfl (by decide +kernel) ⟨Nat.le_of_ble_eq_true rfl, Nat.le_of_ble_eq_true rfl⟩) rfl rfl rfl rfl (by decide) rfl rfl rfl rfl rfl rfl (Nat.le_of_ble_eq_true rfl) ⟨Nat.zero_le _, Nat.zero_le _⟩ dX11_law_27 ?_
  obtain ⟨u5, eu5, hf⟩ := nm_some hf
  refine a_put (pc := 30) (kb := 0) (j := 0) (f := 2) (ty := .int) (bs' := [bX11 y a0 (a1 0) (a2 0) z0_hillReader (a3 0) z0_now (a4 0) z0_diary z0_spare (a5 0) z0_spareDiary z0_guess (a6 0) z0_imageHill z0_imageRules z0_imageDiary u5, bAB400 y a1 v1, bX10 y a2 t2, bX6 y a3 (a2 0) (a5 0) t4.2.1, bX5 y a4 v4, bX5 y a5 t4.2.2, bX8 y a6 z6_hills z6_diaries v6]) F iW_X11 rfl rfl rfl (by decide) (tl q2_58) (fun _ h => h) tyX11 tyX11_ok nmX11 rfl rfl rfl rfl (Nat.le_of_ble_eq_true rfl) (by rw [eu5]; rfl) dX11_law_30 ?_
  refine a_aloadn (pc := 33) (j := 0) F dX11_law_33 rfl rfl ?_
  refine a_get (pc := 34) (kb := 0) (j := 0) (f := 2) F iW_X11 rfl rfl rfl (by decide) (tl q2_58) (fun _ h => h) rfl dX11_law_34 ?_
  refine a_iconst (pc := 37) F dX11_law_37 kc_m1 ?_
  refine a_icmp_eq (pc := 38) (tgt := 49) F dX11_law_38 (by decide) (fun h => ?_) (fun h => ?_)
  · replace hf := it_pos h hf
    refine a_aloadn (pc := 49) (j := 0) F dX11_law_49 rfl rfl ?_
    refine a_get (pc := 50) (kb := 0) (j := 0) (f := 8) F iW_X11 rfl rfl rfl (by decide) (tl q2_64) (fun _ h => h) rfl dX11_law_50 ?_
    refine a_aloadn (pc := 53) (j := 0) F dX11_law_53 rfl rfl ?_
    refine a_get (pc := 54) (kb := 0) (j := 0) (f := 11) F iW_X11 rfl rfl rfl (by decide) (tl q2_67) (fun _ h => h) rfl dX11_law_54 ?_
    obtain ⟨t6, ht6, hf⟩ := bd_some hf
    refine a_callVv (pc := 57) (bs' := [bX11 y a0 (a1 0) (a2 0) z0_hillReader (a3 0) z0_now (a4 0) z0_diary z0_spare (a5 0) z0_spareDiary z0_guess (a6 0) z0_imageHill z0_imageRules z0_imageDiary u5, bAB400 y a1 v1, bX10 y a2 t2, bX6 y a3 (a2 0) (a5 0) t4.2.1, bX5 y a4 t6, bX5 y a5 t4.2.2, bX8 y a6 z6_hills z6_diaries v6]) (kb := 4) (j := 0) F [4, 5] (c_X5_copyFrom l D y ek n a4 a5 _ _ _ ht6) (cwV 1 F.1.2.2.2.2 (gV q3_59 q3_60 q3_61 q1_4 q3_62) rfl rfl rfl (by decide +kernel) ⟨Nat.le_of_ble_eq_true rfl, Nat.le_of_ble_eq_true rfl⟩) rfl rfl rfl rfl (by decide) rfl rfl rfl rfl rfl rfl (Nat.le_of_ble_eq_true rfl) ⟨Nat.zero_le _, Nat.zero_le _⟩ dX11_law_57 ?_
    refine a_aloadn (pc := 60) (j := 0) F dX11_law_60 rfl rfl ?_
    refine a_get (pc := 61) (kb := 0) (j := 0) (f := 14) F iW_X11 rfl rfl rfl (by decide) (tl q2_70) (fun _ h => h) rfl dX11_law_61 ?_
    obtain ⟨t7, ht7, hf⟩ := bd_some hf
    refine a_callVv (pc := 64) (bs' := [bX11 y a0 (a1 0) (a2 0) z0_hillReader (a3 0) z0_now (a4 0) z0_diary z0_spare (a5 0) z0_spareDiary z0_guess (a6 0) z0_imageHill z0_imageRules z0_imageDiary u5, bAB400 y a1 v1, bX10 y a2 t2, bX6 y a3 (a2 0) (a5 0) t4.2.1, bX5 y a4 t6, bX5 y a5 t4.2.2, bX8 y a6 z6_hills z6_diaries t7]) (kb := 6) (j := 0) F [6] (c_X8_forget l D y ek n a6 z6_hills z6_diaries _ _ ht7) (cwV 0 F.1.2.2.2.2 (gV q3_69 q3_70 q3_71 q1_10 q3_72) rfl rfl rfl (by decide +kernel) ⟨Nat.le_of_ble_eq_true rfl, Nat.le_of_ble_eq_true rfl⟩) rfl rfl rfl rfl (by decide) rfl rfl rfl rfl rfl rfl (Nat.le_of_ble_eq_true rfl) ⟨Nat.zero_le _, Nat.zero_le _⟩ dX11_law_64 ?_
    refine a_aloadn (pc := 67) (j := 0) F dX11_law_67 rfl rfl ?_
    refine a_get (pc := 68) (kb := 0) (j := 0) (f := 8) F iW_X11 rfl rfl rfl (by decide) (tl q2_64) (fun _ h => h) rfl dX11_law_68 ?_
    refine a_get (pc := 71) (kb := 4) (j := 0) (f := 0) F iW_X5 rfl rfl rfl (by decide) (tl q1_170) (fun _ h => h) rfl dX11_law_71 ?_
    obtain rfl := Sum.inl.inj (Option.some.inj hf)
    exact hret _ _ _ _ (Nat.zero_le _) (Nat.zero_le _) rfl dX11_law_74
  · replace hf := it_neg h hf
    exact absurd hf (by simp)
set_option maxHeartbeats 4000000 in
set_option maxRecDepth 100000 in
theorem x_X11_law (l : Launch) (hlt : l.stackTraces = false) (D : va_G) (y : Nat → ClassId) (ek : EK) (n : Nat) (a0 : Nat → Nat) (a1 : Nat → Nat) (a2 : Nat → Nat) (a3 : Nat → Nat) (a4 : Nat → Nat) (a5 : Nat → Nat) (a6 : Nat → Nat) (z0_hillReader : Nat) (z0_now : Nat) (z0_diary : Nat) (z0_spare : Nat) (z0_spareDiary : Nat) (z0_guess : Nat) (z0_imageHill : Nat) (z0_imageRules : Nat) (z0_imageDiary : Nat) (z6_hills : Nat → Nat → Nat) (z6_diaries : Nat → Nat → Nat) (v0 : St) (v1 : St) (v2 : St) (v3 : St) (v4 : St) (v5 : St) (v6 : St) (res : Nat × St × St × St × St × St × St) (hf : m_X11_law n v0 v1 v2 v3 v4 v5 v6 = some (Sum.inr res)) : CX l yX11_law wX11_law { frames := 69, cells := 1, slots := 6, locals := 1581 } D y ek [.ref (a0 0)] [bX11 y a0 (a1 0) (a2 0) z0_hillReader (a3 0) z0_now (a4 0) z0_diary z0_spare (a5 0) z0_spareDiary z0_guess (a6 0) z0_imageHill z0_imageRules z0_imageDiary v0, bAB400 y a1 v1, bX10 y a2 v2, bX6 y a3 (a2 0) (a5 0) v3, bX5 y a4 v4, bX5 y a5 v5, bX8 y a6 z6_hills z6_diaries v6] (eX.getD res.1 "") [bX11 y a0 (a1 0) (a2 0) z0_hillReader (a3 0) z0_now (a4 0) z0_diary z0_spare (a5 0) z0_spareDiary z0_guess (a6 0) z0_imageHill z0_imageRules z0_imageDiary res.2.1, bAB400 y a1 v1, bX10 y a2 res.2.2.1, bX6 y a3 (a2 0) (a5 0) res.2.2.2.1, bX5 y a4 res.2.2.2.2.1, bX5 y a5 res.2.2.2.2.2.1, bX8 y a6 z6_hills z6_diaries res.2.2.2.2.2.2] 1 6 := by
  unfold m_X11_law at hf
  refine cx_of (cc := cX11_law) (maxL := 1) hlt (by decide) rfl (Nat.le_of_ble_eq_true rfl) (Nat.le_refl 1) (Nat.le_refl 6) ?_
  intro p e s m below meth c Q A F hthr hout
  refine a_lv (lv' := [(0, .ref (a0 0))]) rfl ?_
  refine a_aloadn (pc := 0) (j := 0) F dX11_law_0 rfl rfl ?_
  refine a_get (pc := 1) (kb := 0) (j := 0) (f := 3) F iW_X11 rfl rfl rfl (by decide) (tl q2_59) (fun _ h => h) rfl dX11_law_1 ?_
  refine a_aloadn (pc := 4) (j := 0) F dX11_law_4 rfl rfl ?_
  refine a_get (pc := 5) (kb := 0) (j := 0) (f := 0) F iW_X11 rfl rfl rfl (by decide) (tl q2_56) (fun _ h => h) rfl dX11_law_5 ?_
  refine a_aloadn (pc := 8) (j := 0) F dX11_law_8 rfl rfl ?_
  obtain ⟨t1, ht1, hf⟩ := bd_some hf
  refine a_callV (pc := 9) (bs' := [bX11 y a0 (a1 0) (a2 0) z0_hillReader (a3 0) z0_now (a4 0) z0_diary z0_spare (a5 0) z0_spareDiary z0_guess (a6 0) z0_imageHill z0_imageRules z0_imageDiary t1.2, bAB400 y a1 v1, bX10 y a2 v2, bX6 y a3 (a2 0) (a5 0) v3, bX5 y a4 v4, bX5 y a5 v5, bX8 y a6 z6_hills z6_diaries v6]) (kb := 0) (j := 0) F [0] (c_X11_useTapeUp l D y ek n a0 (a1 0) (a2 0) z0_hillReader (a3 0) z0_now (a4 0) z0_diary z0_spare (a5 0) z0_spareDiary z0_guess (a6 0) z0_imageHill z0_imageRules z0_imageDiary _ _ ht1) (cwV 0 F.1.2.2.2.2 (gV q3_102 q3_104 qs_4 q1_1 q3_105) rfl rfl rfl (by decide +kernel) ⟨Nat.le_of_ble_eq_true rfl, Nat.le_of_ble_eq_true rfl⟩) rfl rfl rfl rfl (by decide) rfl rfl rfl rfl rfl rfl (Nat.le_of_ble_eq_true rfl) ⟨Nat.zero_le _, Nat.zero_le _⟩ dX11_law_9 ?_
  obtain ⟨t2, ht2, hf⟩ := bd_some hf
  refine a_callVv (pc := 12) (bs' := [bX11 y a0 (a1 0) (a2 0) z0_hillReader (a3 0) z0_now (a4 0) z0_diary z0_spare (a5 0) z0_spareDiary z0_guess (a6 0) z0_imageHill z0_imageRules z0_imageDiary t1.2, bAB400 y a1 v1, bX10 y a2 t2, bX6 y a3 (a2 0) (a5 0) v3, bX5 y a4 v4, bX5 y a5 v5, bX8 y a6 z6_hills z6_diaries v6]) (kb := 2) (j := 0) F [2, 1] (c_X10_split l D y ek n a2 a1 _ _ _ _ ht2) (cwV 2 F.1.2.2.2.2 (gV q3_106 q3_107 q3_108 q1_2 q3_109) rfl rfl rfl (by decide +kernel) ⟨Nat.le_of_ble_eq_true rfl, Nat.le_of_ble_eq_true rfl⟩) rfl rfl rfl rfl (by decide) rfl rfl rfl rfl rfl rfl (Nat.le_of_ble_eq_true rfl) ⟨Nat.zero_le _, Nat.zero_le _⟩ dX11_law_12 ?_
  refine a_aloadn (pc := 15) (j := 0) F dX11_law_15 rfl rfl ?_
  refine a_get (pc := 16) (kb := 0) (j := 0) (f := 11) F iW_X11 rfl rfl rfl (by decide) (tl q2_67) (fun _ h => h) rfl dX11_law_16 ?_
  obtain ⟨t3, ht3, hf⟩ := bd_some hf
  refine a_callVv (pc := 19) (bs' := [bX11 y a0 (a1 0) (a2 0) z0_hillReader (a3 0) z0_now (a4 0) z0_diary z0_spare (a5 0) z0_spareDiary z0_guess (a6 0) z0_imageHill z0_imageRules z0_imageDiary t1.2, bAB400 y a1 v1, bX10 y a2 t2, bX6 y a3 (a2 0) (a5 0) v3, bX5 y a4 v4, bX5 y a5 t3, bX8 y a6 z6_hills z6_diaries v6]) (kb := 5) (j := 0) F [5] (c_X5_clear l D y ek n a5 _ _ ht3) (cwV 0 F.1.2.2.2.2 (gV q4_137 q4_138 q4_139 q1_4 q4_140) rfl rfl rfl (by decide +kernel) ⟨Nat.le_of_ble_eq_true rfl, Nat.le_of_ble_eq_true rfl⟩) rfl rfl rfl rfl (by decide) rfl rfl rfl rfl rfl rfl (Nat.le_of_ble_eq_true rfl) ⟨Nat.zero_le _, Nat.zero_le _⟩ dX11_law_19 ?_
  refine a_aloadn (pc := 22) (j := 0) F dX11_law_22 rfl rfl ?_
  refine a_aloadn (pc := 23) (j := 0) F dX11_law_23 rfl rfl ?_
  refine a_get (pc := 24) (kb := 0) (j := 0) (f := 5) F iW_X11 rfl rfl rfl (by decide) (tl q2_61) (fun _ h => h) rfl dX11_law_24 ?_
  obtain ⟨t4, ht4, hf⟩ := bd_some hf
  refine a_callU (pc := 27) (bs' := [bX11 y a0 (a1 0) (a2 0) z0_hillReader (a3 0) z0_now (a4 0) z0_diary z0_spare (a5 0) z0_spareDiary z0_guess (a6 0) z0_imageHill z0_imageRules z0_imageDiary t1.2, bAB400 y a1 v1, bX10 y a2 t2, bX6 y a3 (a2 0) (a5 0) t4.2.1, bX5 y a4 v4, bX5 y a5 t4.2.2, bX8 y a6 z6_hills z6_diaries v6]) (kb := 3) (j := 0) F [3, 2, 5] (c_X9_read_X6 l D y ek n a3 a2 a5 _ _ _ _ ht4) (va_cwU 0 F.1.2.2.2.2 (gU q4_141 q4_142 q4_143 q3_189 q1_6 q3_190) rfl rfl rfl rfl (by decide +kernel) ⟨Nat.le_of_ble_eq_true rfl, Nat.le_of_ble_eq_true rfl⟩) rfl rfl rfl rfl (by decide) rfl rfl rfl rfl rfl rfl (Nat.le_of_ble_eq_true rfl) ⟨Nat.zero_le _, Nat.zero_le _⟩ dX11_law_27 ?_
  obtain ⟨u5, eu5, hf⟩ := nm_some hf
  refine a_put (pc := 30) (kb := 0) (j := 0) (f := 2) (ty := .int) (bs' := [bX11 y a0 (a1 0) (a2 0) z0_hillReader (a3 0) z0_now (a4 0) z0_diary z0_spare (a5 0) z0_spareDiary z0_guess (a6 0) z0_imageHill z0_imageRules z0_imageDiary u5, bAB400 y a1 v1, bX10 y a2 t2, bX6 y a3 (a2 0) (a5 0) t4.2.1, bX5 y a4 v4, bX5 y a5 t4.2.2, bX8 y a6 z6_hills z6_diaries v6]) F iW_X11 rfl rfl rfl (by decide) (tl q2_58) (fun _ h => h) tyX11 tyX11_ok nmX11 rfl rfl rfl rfl (Nat.le_of_ble_eq_true rfl) (by rw [eu5]; rfl) dX11_law_30 ?_
  refine a_aloadn (pc := 33) (j := 0) F dX11_law_33 rfl rfl ?_
  refine a_get (pc := 34) (kb := 0) (j := 0) (f := 2) F iW_X11 rfl rfl rfl (by decide) (tl q2_58) (fun _ h => h) rfl dX11_law_34 ?_
  refine a_iconst (pc := 37) F dX11_law_37 kc_m1 ?_
  refine a_icmp_eq (pc := 38) (tgt := 49) F dX11_law_38 (by decide) (fun h => ?_) (fun h => ?_)
  · replace hf := it_pos h hf
    refine a_aloadn (pc := 49) (j := 0) F dX11_law_49 rfl rfl ?_
    refine a_get (pc := 50) (kb := 0) (j := 0) (f := 8) F iW_X11 rfl rfl rfl (by decide) (tl q2_64) (fun _ h => h) rfl dX11_law_50 ?_
    refine a_aloadn (pc := 53) (j := 0) F dX11_law_53 rfl rfl ?_
    refine a_get (pc := 54) (kb := 0) (j := 0) (f := 11) F iW_X11 rfl rfl rfl (by decide) (tl q2_67) (fun _ h => h) rfl dX11_law_54 ?_
    obtain ⟨t6, ht6, hf⟩ := bd_some hf
    refine a_callVv (pc := 57) (bs' := [bX11 y a0 (a1 0) (a2 0) z0_hillReader (a3 0) z0_now (a4 0) z0_diary z0_spare (a5 0) z0_spareDiary z0_guess (a6 0) z0_imageHill z0_imageRules z0_imageDiary u5, bAB400 y a1 v1, bX10 y a2 t2, bX6 y a3 (a2 0) (a5 0) t4.2.1, bX5 y a4 t6, bX5 y a5 t4.2.2, bX8 y a6 z6_hills z6_diaries v6]) (kb := 4) (j := 0) F [4, 5] (c_X5_copyFrom l D y ek n a4 a5 _ _ _ ht6) (cwV 1 F.1.2.2.2.2 (gV q3_59 q3_60 q3_61 q1_4 q3_62) rfl rfl rfl (by decide +kernel) ⟨Nat.le_of_ble_eq_true rfl, Nat.le_of_ble_eq_true rfl⟩) rfl rfl rfl rfl (by decide) rfl rfl rfl rfl rfl rfl (Nat.le_of_ble_eq_true rfl) ⟨Nat.zero_le _, Nat.zero_le _⟩ dX11_law_57 ?_
    refine a_aloadn (pc := 60) (j := 0) F dX11_law_60 rfl rfl ?_
    refine a_get (pc := 61) (kb := 0) (j := 0) (f := 14) F iW_X11 rfl rfl rfl (by decide) (tl q2_70) (fun _ h => h) rfl dX11_law_61 ?_
    obtain ⟨t7, ht7, hf⟩ := bd_some hf
    refine a_callVv (pc := 64) (bs' := [bX11 y a0 (a1 0) (a2 0) z0_hillReader (a3 0) z0_now (a4 0) z0_diary z0_spare (a5 0) z0_spareDiary z0_guess (a6 0) z0_imageHill z0_imageRules z0_imageDiary u5, bAB400 y a1 v1, bX10 y a2 t2, bX6 y a3 (a2 0) (a5 0) t4.2.1, bX5 y a4 t6, bX5 y a5 t4.2.2, bX8 y a6 z6_hills z6_diaries t7]) (kb := 6) (j := 0) F [6] (c_X8_forget l D y ek n a6 z6_hills z6_diaries _ _ ht7) (cwV 0 F.1.2.2.2.2 (gV q3_69 q3_70 q3_71 q1_10 q3_72) rfl rfl rfl (by decide +kernel) ⟨Nat.le_of_ble_eq_true rfl, Nat.le_of_ble_eq_true rfl⟩) rfl rfl rfl rfl (by decide) rfl rfl rfl rfl rfl rfl (Nat.le_of_ble_eq_true rfl) ⟨Nat.zero_le _, Nat.zero_le _⟩ dX11_law_64 ?_
    refine a_aloadn (pc := 67) (j := 0) F dX11_law_67 rfl rfl ?_
    refine a_get (pc := 68) (kb := 0) (j := 0) (f := 8) F iW_X11 rfl rfl rfl (by decide) (tl q2_64) (fun _ h => h) rfl dX11_law_68 ?_
    refine a_get (pc := 71) (kb := 4) (j := 0) (f := 0) F iW_X5 rfl rfl rfl (by decide) (tl q1_170) (fun _ h => h) rfl dX11_law_71 ?_
    exact absurd hf (by simp)
  · replace hf := it_neg h hf
    obtain rfl := Sum.inr.inj (Option.some.inj hf)
    exact hthr 41 127 129 _ _ xw_0 dX11_law_41 dX11_law_44 dX11_law_45 dX11_law_48 (Nat.le_of_ble_eq_true rfl) (Nat.le_of_ble_eq_true rfl) (Nat.le_of_ble_eq_true rfl) (Nat.le_of_ble_eq_true rfl)

abbrev wX11_plank : List Cond := Cond.code yX11_plank cX11_plank 3 (some .int) :: WALL
def m_X11_plank (n : Nat) (v0 : St) (v1 : St) (v2 : St) (x1 : Int32) (x2 : Int32) : Option ((Int32 × St) ⊕ (Nat × St)) :=
bd (m_X11_checkPlank n v0 v1 x1) (fun t1 => sm t1 (fun t1a =>
(if x2 = 0 then
(if ix x1 5 then some (Sum.inl ((v1 9 (x1).toNatClampNeg), v2)) else none)
else
(if x2 = 1 then
(if ix x1 5 then some (Sum.inl ((v1 10 (x1).toNatClampNeg), v2)) else none)
else
(if x2 = 2 then
(if ix x1 5 then (if (v1 11 (x1).toNatClampNeg) = 0 then
some (Sum.inl (0, v2))
else
some (Sum.inl (1, v2))) else none)
else
(if x2 = 3 then
(if ix x1 5 then (if (v1 12 (x1).toNatClampNeg) = 0 then
some (Sum.inl (0, v2))
else
some (Sum.inl (1, v2))) else none)
else
(if x2 = 4 then
bd (m_X3_tiltOf n v1 x1) (fun t6 =>
some (Sum.inl ((t6 + 5), v2)))
else
(if x2 = 5 then
bd (m_X3_isLevel n v1 x1) (fun t7 =>
(if t7 = 0 then
some (Sum.inl (0, v2))
else
some (Sum.inl (1, v2))))
else
(if x2 = 6 then
bd (m_X3_agesBy n v1 v2 x1) (fun t8 =>
some (Sum.inl (t8.1, t8.2)))
else
some (Sum.inr (3, v2)))))))))) (fun t1x => some (Sum.inr (t1x, v2))))
set_option maxHeartbeats 4000000 in
set_option maxRecDepth 100000 in
theorem c_X11_plank (l : Launch) (D : va_G) (y : Nat → ClassId) (ek : EK) (n : Nat) (a0 : Nat → Nat) (a1 : Nat → Nat) (a2 : Nat → Nat) (z0_tape : Nat) (z0_tokens : Nat) (z0_hillReader : Nat) (z0_lawReader : Nat) (z0_diary : Nat) (z0_spare : Nat) (z0_draft : Nat) (z0_spareDiary : Nat) (z0_guess : Nat) (z0_past : Nat) (z0_imageHill : Nat) (z0_imageRules : Nat) (z0_imageDiary : Nat) (v0 : St) (v1 : St) (v2 : St) (x1 : Int32) (x2 : Int32) (res : Int32 × St) (hf : m_X11_plank n v0 v1 v2 x1 x2 = some (Sum.inl res)) : CI l yX11_plank wX11_plank { frames := 7, cells := 0, slots := 0, locals := 103 } D y ek [.ref (a0 0), .int x1, .int x2] [bX11 y a0 z0_tape z0_tokens z0_hillReader z0_lawReader (a1 0) (a2 0) z0_diary z0_spare z0_draft z0_spareDiary z0_guess z0_past z0_imageHill z0_imageRules z0_imageDiary v0, bX3 y a1 v1, bX5 y a2 v2] (res.1) [bX11 y a0 z0_tape z0_tokens z0_hillReader z0_lawReader (a1 0) (a2 0) z0_diary z0_spare z0_draft z0_spareDiary z0_guess z0_past z0_imageHill z0_imageRules z0_imageDiary v0, bX3 y a1 v1, bX5 y a2 res.2] 0 0 := by
  unfold m_X11_plank at hf
  refine ci_of (cc := cX11_plank) (maxL := 3) (by decide) rfl rfl (Nat.le_of_ble_eq_true rfl) ?_
  intro p e s m below meth c Q A F hret
  refine a_lv (lv' := [(0, .ref (a0 0)), (1, .int x1), (2, .int x2)]) rfl ?_
  refine a_aloadn (pc := 0) (j := 0) F dX11_plank_0 rfl rfl ?_
  refine a_iloadn (pc := 1) (j := 1) F dX11_plank_1 rfl rfl ?_
  obtain ⟨t1, ht1a, hf⟩ := bd_some hf
  rcases t1 with t1a | t1x
  · replace hf := sm_inl hf
    refine a_callVv (pc := 2) (bs' := [bX11 y a0 z0_tape z0_tokens z0_hillReader z0_lawReader (a1 0) (a2 0) z0_diary z0_spare z0_draft z0_spareDiary z0_guess z0_past z0_imageHill z0_imageRules z0_imageDiary v0, bX3 y a1 v1, bX5 y a2 v2]) (kb := 0) (j := 0) F [0, 1] (c_X11_checkPlank l D y ek n a0 a1 z0_tape z0_tokens z0_hillReader z0_lawReader (a2 0) z0_diary z0_spare z0_draft z0_spareDiary z0_guess z0_past z0_imageHill z0_imageRules z0_imageDiary _ _ _ _ ht1a) (cwV 1 F.1.2.2.2.2 (gV q4_153 q4_155 qs_17 q1_1 q4_156) rfl rfl rfl (by decide +kernel) ⟨Nat.le_of_ble_eq_true rfl, Nat.le_of_ble_eq_true rfl⟩) rfl rfl rfl rfl (by decide) rfl rfl rfl rfl rfl rfl (Nat.le_of_ble_eq_true rfl) ⟨Nat.zero_le _, Nat.zero_le _⟩ dX11_plank_2 ?_
    refine a_iloadn (pc := 5) (j := 2) F dX11_plank_5 rfl rfl ?_
    by_cases h0 : x2 = 0
    · replace hf := it_pos h0 hf
      refine a_tin (pc := 6) (tgt := 48) (k := 0) F dX11_plank_6 (by rw [h0]; decide) (by decide) (by decide) rfl (by decide) ?_
      refine a_aloadn (pc := 48) (j := 0) F dX11_plank_48 rfl rfl ?_
      refine a_get (pc := 49) (kb := 0) (j := 0) (f := 7) F iW_X11 rfl rfl rfl (by decide) (tl q2_63) (fun _ h => h) rfl dX11_plank_49 ?_
      refine a_get (pc := 52) (kb := 1) (j := 0) (f := 9) F iW_X3 rfl rfl rfl (by decide) (tl q1_94) (fun _ h => h) rfl dX11_plank_52 ?_
      refine a_iloadn (pc := 55) (j := 1) F dX11_plank_55 rfl rfl ?_
      obtain ⟨h2, hf⟩ := gd_some hf
      refine a_iald (pc := 56) (kb := 1) (j := 1) F rfl rfl h2 dX11_plank_56 ?_
      obtain rfl := Sum.inl.inj (Option.some.inj hf)
      exact hret _ _ _ _ (Nat.zero_le _) (Nat.zero_le _) rfl dX11_plank_57
    replace hf := it_neg h0 hf
    by_cases h1 : x2 = 1
    · replace hf := it_pos h1 hf
      refine a_tin (pc := 6) (tgt := 58) (k := 1) F dX11_plank_6 (by rw [h1]; decide) (by decide) (by decide) rfl (by decide) ?_
      refine a_aloadn (pc := 58) (j := 0) F dX11_plank_58 rfl rfl ?_
      refine a_get (pc := 59) (kb := 0) (j := 0) (f := 7) F iW_X11 rfl rfl rfl (by decide) (tl q2_63) (fun _ h => h) rfl dX11_plank_59 ?_
      refine a_get (pc := 62) (kb := 1) (j := 0) (f := 10) F iW_X3 rfl rfl rfl (by decide) (tl q1_96) (fun _ h => h) rfl dX11_plank_62 ?_
      refine a_iloadn (pc := 65) (j := 1) F dX11_plank_65 rfl rfl ?_
      obtain ⟨h3, hf⟩ := gd_some hf
      refine a_iald (pc := 66) (kb := 1) (j := 2) F rfl rfl h3 dX11_plank_66 ?_
      obtain rfl := Sum.inl.inj (Option.some.inj hf)
      exact hret _ _ _ _ (Nat.zero_le _) (Nat.zero_le _) rfl dX11_plank_67
    replace hf := it_neg h1 hf
    by_cases h2 : x2 = 2
    · replace hf := it_pos h2 hf
      refine a_tin (pc := 6) (tgt := 68) (k := 2) F dX11_plank_6 (by rw [h2]; decide) (by decide) (by decide) rfl (by decide) ?_
      refine a_aloadn (pc := 68) (j := 0) F dX11_plank_68 rfl rfl ?_
      refine a_get (pc := 69) (kb := 0) (j := 0) (f := 7) F iW_X11 rfl rfl rfl (by decide) (tl q2_63) (fun _ h => h) rfl dX11_plank_69 ?_
      refine a_get (pc := 72) (kb := 1) (j := 0) (f := 11) F iW_X3 rfl rfl rfl (by decide) (tl q1_98) (fun _ h => h) rfl dX11_plank_72 ?_
      refine a_iloadn (pc := 75) (j := 1) F dX11_plank_75 rfl rfl ?_
      obtain ⟨h4, hf⟩ := gd_some hf
      refine a_zald (pc := 76) (kb := 1) (j := 3) F rfl rfl h4 dX11_plank_76 ?_
      refine a_if_eq (pc := 77) (tgt := 84) F dX11_plank_77 (by decide) (fun h => ?_) (fun h => ?_)
      · replace hf := it_pos h hf
        refine a_iconst (pc := 84) F dX11_plank_84 kc_0 ?_
        obtain rfl := Sum.inl.inj (Option.some.inj hf)
        exact hret _ _ _ _ (Nat.zero_le _) (Nat.zero_le _) rfl dX11_plank_85
      · replace hf := it_neg h hf
        refine a_iconst (pc := 80) F dX11_plank_80 kc_1 ?_
        refine a_goto (pc := 81) (tgt := 85) F dX11_plank_81 (by decide) ?_
        obtain rfl := Sum.inl.inj (Option.some.inj hf)
        exact hret _ _ _ _ (Nat.zero_le _) (Nat.zero_le _) rfl dX11_plank_85
    replace hf := it_neg h2 hf
    by_cases h3 : x2 = 3
    · replace hf := it_pos h3 hf
      refine a_tin (pc := 6) (tgt := 86) (k := 3) F dX11_plank_6 (by rw [h3]; decide) (by decide) (by decide) rfl (by decide) ?_
      refine a_aloadn (pc := 86) (j := 0) F dX11_plank_86 rfl rfl ?_
      refine a_get (pc := 87) (kb := 0) (j := 0) (f := 7) F iW_X11 rfl rfl rfl (by decide) (tl q2_63) (fun _ h => h) rfl dX11_plank_87 ?_
      refine a_get (pc := 90) (kb := 1) (j := 0) (f := 12) F iW_X3 rfl rfl rfl (by decide) (tl q1_100) (fun _ h => h) rfl dX11_plank_90 ?_
      refine a_iloadn (pc := 93) (j := 1) F dX11_plank_93 rfl rfl ?_
      obtain ⟨h5, hf⟩ := gd_some hf
      refine a_zald (pc := 94) (kb := 1) (j := 4) F rfl rfl h5 dX11_plank_94 ?_
      refine a_if_eq (pc := 95) (tgt := 102) F dX11_plank_95 (by decide) (fun h => ?_) (fun h => ?_)
      · replace hf := it_pos h hf
        refine a_iconst (pc := 102) F dX11_plank_102 kc_0 ?_
        obtain rfl := Sum.inl.inj (Option.some.inj hf)
        exact hret _ _ _ _ (Nat.zero_le _) (Nat.zero_le _) rfl dX11_plank_103
      · replace hf := it_neg h hf
        refine a_iconst (pc := 98) F dX11_plank_98 kc_1 ?_
        refine a_goto (pc := 99) (tgt := 103) F dX11_plank_99 (by decide) ?_
        obtain rfl := Sum.inl.inj (Option.some.inj hf)
        exact hret _ _ _ _ (Nat.zero_le _) (Nat.zero_le _) rfl dX11_plank_103
    replace hf := it_neg h3 hf
    by_cases h4 : x2 = 4
    · replace hf := it_pos h4 hf
      refine a_tin (pc := 6) (tgt := 104) (k := 4) F dX11_plank_6 (by rw [h4]; decide) (by decide) (by decide) rfl (by decide) ?_
      refine a_aloadn (pc := 104) (j := 0) F dX11_plank_104 rfl rfl ?_
      refine a_get (pc := 105) (kb := 0) (j := 0) (f := 7) F iW_X11 rfl rfl rfl (by decide) (tl q2_63) (fun _ h => h) rfl dX11_plank_105 ?_
      refine a_iloadn (pc := 108) (j := 1) F dX11_plank_108 rfl rfl ?_
      obtain ⟨t6, ht6, hf⟩ := bd_some hf
      refine a_callV (pc := 109) (bs' := [bX11 y a0 z0_tape z0_tokens z0_hillReader z0_lawReader (a1 0) (a2 0) z0_diary z0_spare z0_draft z0_spareDiary z0_guess z0_past z0_imageHill z0_imageRules z0_imageDiary v0, bX3 y a1 v1, bX5 y a2 v2]) (kb := 1) (j := 0) F [1] (c_X3_tiltOf l D y ek n a1 _ _ _ ht6) (cwV 1 F.1.2.2.2.2 (gV q2_188 q2_162 q2_163 q1_3 q2_164) rfl rfl rfl (by decide +kernel) ⟨Nat.le_of_ble_eq_true rfl, Nat.le_of_ble_eq_true rfl⟩) rfl rfl rfl rfl (by decide) rfl rfl rfl rfl rfl rfl (Nat.le_of_ble_eq_true rfl) ⟨Nat.zero_le _, Nat.zero_le _⟩ dX11_plank_109 ?_
      refine a_iconst (pc := 112) F dX11_plank_112 kc_5 ?_
      refine a_iadd (pc := 113) F dX11_plank_113 ?_
      obtain rfl := Sum.inl.inj (Option.some.inj hf)
      exact hret _ _ _ _ (Nat.zero_le _) (Nat.zero_le _) rfl dX11_plank_114
    replace hf := it_neg h4 hf
    by_cases h5 : x2 = 5
    · replace hf := it_pos h5 hf
      refine a_tin (pc := 6) (tgt := 115) (k := 5) F dX11_plank_6 (by rw [h5]; decide) (by decide) (by decide) rfl (by decide) ?_
      refine a_aloadn (pc := 115) (j := 0) F dX11_plank_115 rfl rfl ?_
      refine a_get (pc := 116) (kb := 0) (j := 0) (f := 7) F iW_X11 rfl rfl rfl (by decide) (tl q2_63) (fun _ h => h) rfl dX11_plank_116 ?_
      refine a_iloadn (pc := 119) (j := 1) F dX11_plank_119 rfl rfl ?_
      obtain ⟨t7, ht7, hf⟩ := bd_some hf
      refine a_callV (pc := 120) (bs' := [bX11 y a0 z0_tape z0_tokens z0_hillReader z0_lawReader (a1 0) (a2 0) z0_diary z0_spare z0_draft z0_spareDiary z0_guess z0_past z0_imageHill z0_imageRules z0_imageDiary v0, bX3 y a1 v1, bX5 y a2 v2]) (kb := 1) (j := 0) F [1] (c_X3_isLevel l D y ek n a1 _ _ _ ht7) (cwV 1 F.1.2.2.2.2 (gV q4_172 q4_173 q4_174 q1_3 q4_175) rfl rfl rfl (by decide +kernel) ⟨Nat.le_of_ble_eq_true rfl, Nat.le_of_ble_eq_true rfl⟩) rfl rfl rfl rfl (by decide) rfl rfl rfl rfl rfl rfl (Nat.le_of_ble_eq_true rfl) ⟨Nat.zero_le _, Nat.zero_le _⟩ dX11_plank_120 ?_
      refine a_if_eq (pc := 123) (tgt := 130) F dX11_plank_123 (by decide) (fun h => ?_) (fun h => ?_)
      · replace hf := it_pos h hf
        refine a_iconst (pc := 130) F dX11_plank_130 kc_0 ?_
        obtain rfl := Sum.inl.inj (Option.some.inj hf)
        exact hret _ _ _ _ (Nat.zero_le _) (Nat.zero_le _) rfl dX11_plank_131
      · replace hf := it_neg h hf
        refine a_iconst (pc := 126) F dX11_plank_126 kc_1 ?_
        refine a_goto (pc := 127) (tgt := 131) F dX11_plank_127 (by decide) ?_
        obtain rfl := Sum.inl.inj (Option.some.inj hf)
        exact hret _ _ _ _ (Nat.zero_le _) (Nat.zero_le _) rfl dX11_plank_131
    replace hf := it_neg h5 hf
    by_cases h6 : x2 = 6
    · replace hf := it_pos h6 hf
      refine a_tin (pc := 6) (tgt := 132) (k := 6) F dX11_plank_6 (by rw [h6]; decide) (by decide) (by decide) rfl (by decide) ?_
      refine a_aloadn (pc := 132) (j := 0) F dX11_plank_132 rfl rfl ?_
      refine a_get (pc := 133) (kb := 0) (j := 0) (f := 7) F iW_X11 rfl rfl rfl (by decide) (tl q2_63) (fun _ h => h) rfl dX11_plank_133 ?_
      refine a_aloadn (pc := 136) (j := 0) F dX11_plank_136 rfl rfl ?_
      refine a_get (pc := 137) (kb := 0) (j := 0) (f := 8) F iW_X11 rfl rfl rfl (by decide) (tl q2_64) (fun _ h => h) rfl dX11_plank_137 ?_
      refine a_iloadn (pc := 140) (j := 1) F dX11_plank_140 rfl rfl ?_
      obtain ⟨t8, ht8, hf⟩ := bd_some hf
      refine a_callV (pc := 141) (bs' := [bX11 y a0 z0_tape z0_tokens z0_hillReader z0_lawReader (a1 0) (a2 0) z0_diary z0_spare z0_draft z0_spareDiary z0_guess z0_past z0_imageHill z0_imageRules z0_imageDiary v0, bX3 y a1 v1, bX5 y a2 t8.2]) (kb := 1) (j := 0) F [1, 2] (c_X3_agesBy l D y ek n a1 a2 _ _ _ _ ht8) (cwV 2 F.1.2.2.2.2 (gV q4_176 q2_203 q2_204 q1_3 q2_205) rfl rfl rfl (by decide +kernel) ⟨Nat.le_of_ble_eq_true rfl, Nat.le_of_ble_eq_true rfl⟩) rfl rfl rfl rfl (by decide) rfl rfl rfl rfl rfl rfl (Nat.le_of_ble_eq_true rfl) ⟨Nat.zero_le _, Nat.zero_le _⟩ dX11_plank_141 ?_
      obtain rfl := Sum.inl.inj (Option.some.inj hf)
      exact hret _ _ _ _ (Nat.zero_le _) (Nat.zero_le _) rfl dX11_plank_144
    replace hf := it_neg h6 hf
    refine a_tout (pc := 6) (tgt := 145) F dX11_plank_6 (by have := sw_ne 0 h0 (by decide); have := sw_ne 1 h1 (by decide); have := sw_ne 2 h2 (by decide); have := sw_ne 3 h3 (by decide); have := sw_ne 4 h4 (by decide); have := sw_ne 5 h5 (by decide); have := sw_ne 6 h6 (by decide); omega) (by decide) ?_
    exact absurd hf (by simp)
  · replace hf := sm_inr hf
    exact absurd hf (by simp)
set_option maxHeartbeats 4000000 in
set_option maxRecDepth 100000 in
theorem x_X11_plank (l : Launch) (hlt : l.stackTraces = false) (D : va_G) (y : Nat → ClassId) (ek : EK) (n : Nat) (a0 : Nat → Nat) (a1 : Nat → Nat) (a2 : Nat → Nat) (z0_tape : Nat) (z0_tokens : Nat) (z0_hillReader : Nat) (z0_lawReader : Nat) (z0_diary : Nat) (z0_spare : Nat) (z0_draft : Nat) (z0_spareDiary : Nat) (z0_guess : Nat) (z0_past : Nat) (z0_imageHill : Nat) (z0_imageRules : Nat) (z0_imageDiary : Nat) (v0 : St) (v1 : St) (v2 : St) (x1 : Int32) (x2 : Int32) (res : Nat × St) (hf : m_X11_plank n v0 v1 v2 x1 x2 = some (Sum.inr res)) : CX l yX11_plank wX11_plank { frames := 7, cells := 1, slots := 6, locals := 103 } D y ek [.ref (a0 0), .int x1, .int x2] [bX11 y a0 z0_tape z0_tokens z0_hillReader z0_lawReader (a1 0) (a2 0) z0_diary z0_spare z0_draft z0_spareDiary z0_guess z0_past z0_imageHill z0_imageRules z0_imageDiary v0, bX3 y a1 v1, bX5 y a2 v2] (eX.getD res.1 "") [bX11 y a0 z0_tape z0_tokens z0_hillReader z0_lawReader (a1 0) (a2 0) z0_diary z0_spare z0_draft z0_spareDiary z0_guess z0_past z0_imageHill z0_imageRules z0_imageDiary v0, bX3 y a1 v1, bX5 y a2 res.2] 1 6 := by
  unfold m_X11_plank at hf
  refine cx_of (cc := cX11_plank) (maxL := 3) hlt (by decide) rfl (Nat.le_of_ble_eq_true rfl) (Nat.le_refl 1) (Nat.le_refl 6) ?_
  intro p e s m below meth c Q A F hthr hout
  refine a_lv (lv' := [(0, .ref (a0 0)), (1, .int x1), (2, .int x2)]) rfl ?_
  refine a_aloadn (pc := 0) (j := 0) F dX11_plank_0 rfl rfl ?_
  refine a_iloadn (pc := 1) (j := 1) F dX11_plank_1 rfl rfl ?_
  obtain ⟨t1, ht1a, hf⟩ := bd_some hf
  rcases t1 with t1a | t1x
  · replace hf := sm_inl hf
    refine a_callVv (pc := 2) (bs' := [bX11 y a0 z0_tape z0_tokens z0_hillReader z0_lawReader (a1 0) (a2 0) z0_diary z0_spare z0_draft z0_spareDiary z0_guess z0_past z0_imageHill z0_imageRules z0_imageDiary v0, bX3 y a1 v1, bX5 y a2 v2]) (kb := 0) (j := 0) F [0, 1] (c_X11_checkPlank l D y ek n a0 a1 z0_tape z0_tokens z0_hillReader z0_lawReader (a2 0) z0_diary z0_spare z0_draft z0_spareDiary z0_guess z0_past z0_imageHill z0_imageRules z0_imageDiary _ _ _ _ ht1a) (cwV 1 F.1.2.2.2.2 (gV q4_153 q4_155 qs_17 q1_1 q4_156) rfl rfl rfl (by decide +kernel) ⟨Nat.le_of_ble_eq_true rfl, Nat.le_of_ble_eq_true rfl⟩) rfl rfl rfl rfl (by decide) rfl rfl rfl rfl rfl rfl (Nat.le_of_ble_eq_true rfl) ⟨Nat.zero_le _, Nat.zero_le _⟩ dX11_plank_2 ?_
    refine a_iloadn (pc := 5) (j := 2) F dX11_plank_5 rfl rfl ?_
    by_cases h0 : x2 = 0
    · replace hf := it_pos h0 hf
      refine a_tin (pc := 6) (tgt := 48) (k := 0) F dX11_plank_6 (by rw [h0]; decide) (by decide) (by decide) rfl (by decide) ?_
      refine a_aloadn (pc := 48) (j := 0) F dX11_plank_48 rfl rfl ?_
      refine a_get (pc := 49) (kb := 0) (j := 0) (f := 7) F iW_X11 rfl rfl rfl (by decide) (tl q2_63) (fun _ h => h) rfl dX11_plank_49 ?_
      refine a_get (pc := 52) (kb := 1) (j := 0) (f := 9) F iW_X3 rfl rfl rfl (by decide) (tl q1_94) (fun _ h => h) rfl dX11_plank_52 ?_
      refine a_iloadn (pc := 55) (j := 1) F dX11_plank_55 rfl rfl ?_
      obtain ⟨h2, hf⟩ := gd_some hf
      refine a_iald (pc := 56) (kb := 1) (j := 1) F rfl rfl h2 dX11_plank_56 ?_
      exact absurd hf (by simp)
    replace hf := it_neg h0 hf
    by_cases h1 : x2 = 1
    · replace hf := it_pos h1 hf
      refine a_tin (pc := 6) (tgt := 58) (k := 1) F dX11_plank_6 (by rw [h1]; decide) (by decide) (by decide) rfl (by decide) ?_
      refine a_aloadn (pc := 58) (j := 0) F dX11_plank_58 rfl rfl ?_
      refine a_get (pc := 59) (kb := 0) (j := 0) (f := 7) F iW_X11 rfl rfl rfl (by decide) (tl q2_63) (fun _ h => h) rfl dX11_plank_59 ?_
      refine a_get (pc := 62) (kb := 1) (j := 0) (f := 10) F iW_X3 rfl rfl rfl (by decide) (tl q1_96) (fun _ h => h) rfl dX11_plank_62 ?_
      refine a_iloadn (pc := 65) (j := 1) F dX11_plank_65 rfl rfl ?_
      obtain ⟨h3, hf⟩ := gd_some hf
      refine a_iald (pc := 66) (kb := 1) (j := 2) F rfl rfl h3 dX11_plank_66 ?_
      exact absurd hf (by simp)
    replace hf := it_neg h1 hf
    by_cases h2 : x2 = 2
    · replace hf := it_pos h2 hf
      refine a_tin (pc := 6) (tgt := 68) (k := 2) F dX11_plank_6 (by rw [h2]; decide) (by decide) (by decide) rfl (by decide) ?_
      refine a_aloadn (pc := 68) (j := 0) F dX11_plank_68 rfl rfl ?_
      refine a_get (pc := 69) (kb := 0) (j := 0) (f := 7) F iW_X11 rfl rfl rfl (by decide) (tl q2_63) (fun _ h => h) rfl dX11_plank_69 ?_
      refine a_get (pc := 72) (kb := 1) (j := 0) (f := 11) F iW_X3 rfl rfl rfl (by decide) (tl q1_98) (fun _ h => h) rfl dX11_plank_72 ?_
      refine a_iloadn (pc := 75) (j := 1) F dX11_plank_75 rfl rfl ?_
      obtain ⟨h4, hf⟩ := gd_some hf
      refine a_zald (pc := 76) (kb := 1) (j := 3) F rfl rfl h4 dX11_plank_76 ?_
      refine a_if_eq (pc := 77) (tgt := 84) F dX11_plank_77 (by decide) (fun h => ?_) (fun h => ?_)
      · replace hf := it_pos h hf
        refine a_iconst (pc := 84) F dX11_plank_84 kc_0 ?_
        exact absurd hf (by simp)
      · replace hf := it_neg h hf
        refine a_iconst (pc := 80) F dX11_plank_80 kc_1 ?_
        refine a_goto (pc := 81) (tgt := 85) F dX11_plank_81 (by decide) ?_
        exact absurd hf (by simp)
    replace hf := it_neg h2 hf
    by_cases h3 : x2 = 3
    · replace hf := it_pos h3 hf
      refine a_tin (pc := 6) (tgt := 86) (k := 3) F dX11_plank_6 (by rw [h3]; decide) (by decide) (by decide) rfl (by decide) ?_
      refine a_aloadn (pc := 86) (j := 0) F dX11_plank_86 rfl rfl ?_
      refine a_get (pc := 87) (kb := 0) (j := 0) (f := 7) F iW_X11 rfl rfl rfl (by decide) (tl q2_63) (fun _ h => h) rfl dX11_plank_87 ?_
      refine a_get (pc := 90) (kb := 1) (j := 0) (f := 12) F iW_X3 rfl rfl rfl (by decide) (tl q1_100) (fun _ h => h) rfl dX11_plank_90 ?_
      refine a_iloadn (pc := 93) (j := 1) F dX11_plank_93 rfl rfl ?_
      obtain ⟨h5, hf⟩ := gd_some hf
      refine a_zald (pc := 94) (kb := 1) (j := 4) F rfl rfl h5 dX11_plank_94 ?_
      refine a_if_eq (pc := 95) (tgt := 102) F dX11_plank_95 (by decide) (fun h => ?_) (fun h => ?_)
      · replace hf := it_pos h hf
        refine a_iconst (pc := 102) F dX11_plank_102 kc_0 ?_
        exact absurd hf (by simp)
      · replace hf := it_neg h hf
        refine a_iconst (pc := 98) F dX11_plank_98 kc_1 ?_
        refine a_goto (pc := 99) (tgt := 103) F dX11_plank_99 (by decide) ?_
        exact absurd hf (by simp)
    replace hf := it_neg h3 hf
    by_cases h4 : x2 = 4
    · replace hf := it_pos h4 hf
      refine a_tin (pc := 6) (tgt := 104) (k := 4) F dX11_plank_6 (by rw [h4]; decide) (by decide) (by decide) rfl (by decide) ?_
      refine a_aloadn (pc := 104) (j := 0) F dX11_plank_104 rfl rfl ?_
      refine a_get (pc := 105) (kb := 0) (j := 0) (f := 7) F iW_X11 rfl rfl rfl (by decide) (tl q2_63) (fun _ h => h) rfl dX11_plank_105 ?_
      refine a_iloadn (pc := 108) (j := 1) F dX11_plank_108 rfl rfl ?_
      obtain ⟨t6, ht6, hf⟩ := bd_some hf
      refine a_callV (pc := 109) (bs' := [bX11 y a0 z0_tape z0_tokens z0_hillReader z0_lawReader (a1 0) (a2 0) z0_diary z0_spare z0_draft z0_spareDiary z0_guess z0_past z0_imageHill z0_imageRules z0_imageDiary v0, bX3 y a1 v1, bX5 y a2 v2]) (kb := 1) (j := 0) F [1] (c_X3_tiltOf l D y ek n a1 _ _ _ ht6) (cwV 1 F.1.2.2.2.2 (gV q2_188 q2_162 q2_163 q1_3 q2_164) rfl rfl rfl (by decide +kernel) ⟨Nat.le_of_ble_eq_true rfl, Nat.le_of_ble_eq_true rfl⟩) rfl rfl rfl rfl (by decide) rfl rfl rfl rfl rfl rfl (Nat.le_of_ble_eq_true rfl) ⟨Nat.zero_le _, Nat.zero_le _⟩ dX11_plank_109 ?_
      refine a_iconst (pc := 112) F dX11_plank_112 kc_5 ?_
      refine a_iadd (pc := 113) F dX11_plank_113 ?_
      exact absurd hf (by simp)
    replace hf := it_neg h4 hf
    by_cases h5 : x2 = 5
    · replace hf := it_pos h5 hf
      refine a_tin (pc := 6) (tgt := 115) (k := 5) F dX11_plank_6 (by rw [h5]; decide) (by decide) (by decide) rfl (by decide) ?_
      refine a_aloadn (pc := 115) (j := 0) F dX11_plank_115 rfl rfl ?_
      refine a_get (pc := 116) (kb := 0) (j := 0) (f := 7) F iW_X11 rfl rfl rfl (by decide) (tl q2_63) (fun _ h => h) rfl dX11_plank_116 ?_
      refine a_iloadn (pc := 119) (j := 1) F dX11_plank_119 rfl rfl ?_
      obtain ⟨t7, ht7, hf⟩ := bd_some hf
      refine a_callV (pc := 120) (bs' := [bX11 y a0 z0_tape z0_tokens z0_hillReader z0_lawReader (a1 0) (a2 0) z0_diary z0_spare z0_draft z0_spareDiary z0_guess z0_past z0_imageHill z0_imageRules z0_imageDiary v0, bX3 y a1 v1, bX5 y a2 v2]) (kb := 1) (j := 0) F [1] (c_X3_isLevel l D y ek n a1 _ _ _ ht7) (cwV 1 F.1.2.2.2.2 (gV q4_172 q4_173 q4_174 q1_3 q4_175) rfl rfl rfl (by decide +kernel) ⟨Nat.le_of_ble_eq_true rfl, Nat.le_of_ble_eq_true rfl⟩) rfl rfl rfl rfl (by decide) rfl rfl rfl rfl rfl rfl (Nat.le_of_ble_eq_true rfl) ⟨Nat.zero_le _, Nat.zero_le _⟩ dX11_plank_120 ?_
      refine a_if_eq (pc := 123) (tgt := 130) F dX11_plank_123 (by decide) (fun h => ?_) (fun h => ?_)
      · replace hf := it_pos h hf
        refine a_iconst (pc := 130) F dX11_plank_130 kc_0 ?_
        exact absurd hf (by simp)
      · replace hf := it_neg h hf
        refine a_iconst (pc := 126) F dX11_plank_126 kc_1 ?_
        refine a_goto (pc := 127) (tgt := 131) F dX11_plank_127 (by decide) ?_
        exact absurd hf (by simp)
    replace hf := it_neg h5 hf
    by_cases h6 : x2 = 6
    · replace hf := it_pos h6 hf
      refine a_tin (pc := 6) (tgt := 132) (k := 6) F dX11_plank_6 (by rw [h6]; decide) (by decide) (by decide) rfl (by decide) ?_
      refine a_aloadn (pc := 132) (j := 0) F dX11_plank_132 rfl rfl ?_
      refine a_get (pc := 133) (kb := 0) (j := 0) (f := 7) F iW_X11 rfl rfl rfl (by decide) (tl q2_63) (fun _ h => h) rfl dX11_plank_133 ?_
      refine a_aloadn (pc := 136) (j := 0) F dX11_plank_136 rfl rfl ?_
      refine a_get (pc := 137) (kb := 0) (j := 0) (f := 8) F iW_X11 rfl rfl rfl (by decide) (tl q2_64) (fun _ h => h) rfl dX11_plank_137 ?_
      refine a_iloadn (pc := 140) (j := 1) F dX11_plank_140 rfl rfl ?_
      obtain ⟨t8, ht8, hf⟩ := bd_some hf
      refine a_callV (pc := 141) (bs' := [bX11 y a0 z0_tape z0_tokens z0_hillReader z0_lawReader (a1 0) (a2 0) z0_diary z0_spare z0_draft z0_spareDiary z0_guess z0_past z0_imageHill z0_imageRules z0_imageDiary v0, bX3 y a1 v1, bX5 y a2 t8.2]) (kb := 1) (j := 0) F [1, 2] (c_X3_agesBy l D y ek n a1 a2 _ _ _ _ ht8) (cwV 2 F.1.2.2.2.2 (gV q4_176 q2_203 q2_204 q1_3 q2_205) rfl rfl rfl (by decide +kernel) ⟨Nat.le_of_ble_eq_true rfl, Nat.le_of_ble_eq_true rfl⟩) rfl rfl rfl rfl (by decide) rfl rfl rfl rfl rfl rfl (Nat.le_of_ble_eq_true rfl) ⟨Nat.zero_le _, Nat.zero_le _⟩ dX11_plank_141 ?_
      exact absurd hf (by simp)
    replace hf := it_neg h6 hf
    refine a_tout (pc := 6) (tgt := 145) F dX11_plank_6 (by have := sw_ne 0 h0 (by decide); have := sw_ne 1 h1 (by decide); have := sw_ne 2 h2 (by decide); have := sw_ne 3 h3 (by decide); have := sw_ne 4 h4 (by decide); have := sw_ne 5 h5 (by decide); have := sw_ne 6 h6 (by decide); omega) (by decide) ?_
    obtain rfl := Sum.inr.inj (Option.some.inj hf)
    exact hthr 145 190 192 _ _ xw_3 dX11_plank_145 dX11_plank_148 dX11_plank_149 dX11_plank_152 (Nat.le_of_ble_eq_true rfl) (Nat.le_of_ble_eq_true rfl) (Nat.le_of_ble_eq_true rfl) (Nat.le_of_ble_eq_true rfl)
  · replace hf := sm_inr hf
    obtain rfl := Sum.inr.inj (Option.some.inj hf)
    exact a_callVx (pc := 2) (bs' := [bX11 y a0 z0_tape z0_tokens z0_hillReader z0_lawReader (a1 0) (a2 0) z0_diary z0_spare z0_draft z0_spareDiary z0_guess z0_past z0_imageHill z0_imageRules z0_imageDiary v0, bX3 y a1 v1, bX5 y a2 v2]) (kb := 0) (j := 0) F [0, 1] (x_X11_checkPlank l hlt D y ek n a0 a1 z0_tape z0_tokens z0_hillReader z0_lawReader (a2 0) z0_diary z0_spare z0_draft z0_spareDiary z0_guess z0_past z0_imageHill z0_imageRules z0_imageDiary _ _ _ _ ht1a) (cwV 1 F.1.2.2.2.2 (gV q4_153 q4_155 qs_17 q1_1 q4_156) rfl rfl rfl (by decide +kernel) ⟨Nat.le_of_ble_eq_true rfl, Nat.le_of_ble_eq_true rfl⟩) rfl rfl rfl rfl (by decide) rfl rfl rfl rfl rfl rfl (Nat.le_of_ble_eq_true rfl) ⟨Nat.le_of_ble_eq_true rfl, Nat.le_of_ble_eq_true rfl⟩ dX11_plank_2 (fun H1 locs1 ls q9 ce h1 h2 h3 h4 h5 h6 h7 => hout H1 locs1 ls _ _ _ _ q9 ce h1 h2 h3 (Nat.le_of_ble_eq_true rfl) (Nat.le_of_ble_eq_true rfl) h5 h6 h7)

abbrev wX11_house : List Cond := Cond.code yX11_house cX11_house 3 (some .int) :: WALL
def m_X11_house (n : Nat) (v0 : St) (v1 : St) (v2 : St) (x1 : Int32) (x2 : Int32) : Option ((Int32 × St) ⊕ (Nat × St)) :=
bd (m_X11_checkHouse n v0 v1 x1) (fun t1 => sm t1 (fun t1a =>
(if x2 = 0 then
(if ix x1 10 then some (Sum.inl ((v1 13 (x1).toNatClampNeg), v2)) else none)
else
(if x2 = 1 then
(if ix x1 10 then some (Sum.inl ((v1 14 (x1).toNatClampNeg), v2)) else none)
else
(if x2 = 2 then
(if ix x1 10 then some (Sum.inl ((v1 18 (x1).toNatClampNeg), v2)) else none)
else
(if x2 = 3 then
(if ix x1 10 then some (Sum.inl ((v1 19 (x1).toNatClampNeg), v2)) else none)
else
(if x2 = 4 then
bd (m_X3_thingsIn n v1 x1) (fun t6 =>
some (Sum.inl (t6, v2)))
else
(if x2 = 5 then
bd (m_X3_paysBy n v1 v2 x1) (fun t7 =>
some (Sum.inl (t7.1, t7.2)))
else
(if x2 = 6 then
bd (m_X3_luresBy n v1 v2 x1) (fun t8 =>
some (Sum.inl (t8.1, t8.2)))
else
(if x2 = 7 then
bd (m_X3_shareOf n v1 x1) (fun t9 =>
some (Sum.inl (t9, v2)))
else
(if x2 = 8 then
bd (m_X3_corkOf n v1 x1) (fun t10 =>
some (Sum.inl (t10, v2)))
else
some (Sum.inr (3, v2)))))))))))) (fun t1x => some (Sum.inr (t1x, v2))))
set_option maxHeartbeats 4000000 in
set_option maxRecDepth 100000 in
theorem c_X11_house (l : Launch) (D : va_G) (y : Nat → ClassId) (ek : EK) (n : Nat) (a0 : Nat → Nat) (a1 : Nat → Nat) (a2 : Nat → Nat) (z0_tape : Nat) (z0_tokens : Nat) (z0_hillReader : Nat) (z0_lawReader : Nat) (z0_diary : Nat) (z0_spare : Nat) (z0_draft : Nat) (z0_spareDiary : Nat) (z0_guess : Nat) (z0_past : Nat) (z0_imageHill : Nat) (z0_imageRules : Nat) (z0_imageDiary : Nat) (v0 : St) (v1 : St) (v2 : St) (x1 : Int32) (x2 : Int32) (res : Int32 × St) (hf : m_X11_house n v0 v1 v2 x1 x2 = some (Sum.inl res)) : CI l yX11_house wX11_house { frames := 7, cells := 0, slots := 0, locals := 103 } D y ek [.ref (a0 0), .int x1, .int x2] [bX11 y a0 z0_tape z0_tokens z0_hillReader z0_lawReader (a1 0) (a2 0) z0_diary z0_spare z0_draft z0_spareDiary z0_guess z0_past z0_imageHill z0_imageRules z0_imageDiary v0, bX3 y a1 v1, bX5 y a2 v2] (res.1) [bX11 y a0 z0_tape z0_tokens z0_hillReader z0_lawReader (a1 0) (a2 0) z0_diary z0_spare z0_draft z0_spareDiary z0_guess z0_past z0_imageHill z0_imageRules z0_imageDiary v0, bX3 y a1 v1, bX5 y a2 res.2] 0 0 := by
  unfold m_X11_house at hf
  refine ci_of (cc := cX11_house) (maxL := 3) (by decide) rfl rfl (Nat.le_of_ble_eq_true rfl) ?_
  intro p e s m below meth c Q A F hret
  refine a_lv (lv' := [(0, .ref (a0 0)), (1, .int x1), (2, .int x2)]) rfl ?_
  refine a_aloadn (pc := 0) (j := 0) F dX11_house_0 rfl rfl ?_
  refine a_iloadn (pc := 1) (j := 1) F dX11_house_1 rfl rfl ?_
  obtain ⟨t1, ht1a, hf⟩ := bd_some hf
  rcases t1 with t1a | t1x
  · replace hf := sm_inl hf
    refine a_callVv (pc := 2) (bs' := [bX11 y a0 z0_tape z0_tokens z0_hillReader z0_lawReader (a1 0) (a2 0) z0_diary z0_spare z0_draft z0_spareDiary z0_guess z0_past z0_imageHill z0_imageRules z0_imageDiary v0, bX3 y a1 v1, bX5 y a2 v2]) (kb := 0) (j := 0) F [0, 1] (c_X11_checkHouse l D y ek n a0 a1 z0_tape z0_tokens z0_hillReader z0_lawReader (a2 0) z0_diary z0_spare z0_draft z0_spareDiary z0_guess z0_past z0_imageHill z0_imageRules z0_imageDiary _ _ _ _ ht1a) (cwV 1 F.1.2.2.2.2 (gV q4_199 q4_201 qs_18 q1_1 q4_202) rfl rfl rfl (by decide +kernel) ⟨Nat.le_of_ble_eq_true rfl, Nat.le_of_ble_eq_true rfl⟩) rfl rfl rfl rfl (by decide) rfl rfl rfl rfl rfl rfl (Nat.le_of_ble_eq_true rfl) ⟨Nat.zero_le _, Nat.zero_le _⟩ dX11_house_2 ?_
    refine a_iloadn (pc := 5) (j := 2) F dX11_house_5 rfl rfl ?_
    by_cases h0 : x2 = 0
    · replace hf := it_pos h0 hf
      refine a_tin (pc := 6) (tgt := 56) (k := 0) F dX11_house_6 (by rw [h0]; decide) (by decide) (by decide) rfl (by decide) ?_
      refine a_aloadn (pc := 56) (j := 0) F dX11_house_56 rfl rfl ?_
      refine a_get (pc := 57) (kb := 0) (j := 0) (f := 7) F iW_X11 rfl rfl rfl (by decide) (tl q2_63) (fun _ h => h) rfl dX11_house_57 ?_
      refine a_get (pc := 60) (kb := 1) (j := 0) (f := 13) F iW_X3 rfl rfl rfl (by decide) (tl q1_103) (fun _ h => h) rfl dX11_house_60 ?_
      refine a_iloadn (pc := 63) (j := 1) F dX11_house_63 rfl rfl ?_
      obtain ⟨h2, hf⟩ := gd_some hf
      refine a_iald (pc := 64) (kb := 1) (j := 5) F rfl rfl h2 dX11_house_64 ?_
      obtain rfl := Sum.inl.inj (Option.some.inj hf)
      exact hret _ _ _ _ (Nat.zero_le _) (Nat.zero_le _) rfl dX11_house_65
    replace hf := it_neg h0 hf
    by_cases h1 : x2 = 1
    · replace hf := it_pos h1 hf
      refine a_tin (pc := 6) (tgt := 66) (k := 1) F dX11_house_6 (by rw [h1]; decide) (by decide) (by decide) rfl (by decide) ?_
      refine a_aloadn (pc := 66) (j := 0) F dX11_house_66 rfl rfl ?_
      refine a_get (pc := 67) (kb := 0) (j := 0) (f := 7) F iW_X11 rfl rfl rfl (by decide) (tl q2_63) (fun _ h => h) rfl dX11_house_67 ?_
      refine a_get (pc := 70) (kb := 1) (j := 0) (f := 14) F iW_X3 rfl rfl rfl (by decide) (tl q1_106) (fun _ h => h) rfl dX11_house_70 ?_
      refine a_iloadn (pc := 73) (j := 1) F dX11_house_73 rfl rfl ?_
      obtain ⟨h3, hf⟩ := gd_some hf
      refine a_iald (pc := 74) (kb := 1) (j := 6) F rfl rfl h3 dX11_house_74 ?_
      obtain rfl := Sum.inl.inj (Option.some.inj hf)
      exact hret _ _ _ _ (Nat.zero_le _) (Nat.zero_le _) rfl dX11_house_75
    replace hf := it_neg h1 hf
    by_cases h2 : x2 = 2
    · replace hf := it_pos h2 hf
      refine a_tin (pc := 6) (tgt := 76) (k := 2) F dX11_house_6 (by rw [h2]; decide) (by decide) (by decide) rfl (by decide) ?_
      refine a_aloadn (pc := 76) (j := 0) F dX11_house_76 rfl rfl ?_
      refine a_get (pc := 77) (kb := 0) (j := 0) (f := 7) F iW_X11 rfl rfl rfl (by decide) (tl q2_63) (fun _ h => h) rfl dX11_house_77 ?_
      refine a_get (pc := 80) (kb := 1) (j := 0) (f := 18) F iW_X3 rfl rfl rfl (by decide) (tl q1_118) (fun _ h => h) rfl dX11_house_80 ?_
      refine a_iloadn (pc := 83) (j := 1) F dX11_house_83 rfl rfl ?_
      obtain ⟨h4, hf⟩ := gd_some hf
      refine a_iald (pc := 84) (kb := 1) (j := 10) F rfl rfl h4 dX11_house_84 ?_
      obtain rfl := Sum.inl.inj (Option.some.inj hf)
      exact hret _ _ _ _ (Nat.zero_le _) (Nat.zero_le _) rfl dX11_house_85
    replace hf := it_neg h2 hf
    by_cases h3 : x2 = 3
    · replace hf := it_pos h3 hf
      refine a_tin (pc := 6) (tgt := 86) (k := 3) F dX11_house_6 (by rw [h3]; decide) (by decide) (by decide) rfl (by decide) ?_
      refine a_aloadn (pc := 86) (j := 0) F dX11_house_86 rfl rfl ?_
      refine a_get (pc := 87) (kb := 0) (j := 0) (f := 7) F iW_X11 rfl rfl rfl (by decide) (tl q2_63) (fun _ h => h) rfl dX11_house_87 ?_
      refine a_get (pc := 90) (kb := 1) (j := 0) (f := 19) F iW_X3 rfl rfl rfl (by decide) (tl q1_120) (fun _ h => h) rfl dX11_house_90 ?_
      refine a_iloadn (pc := 93) (j := 1) F dX11_house_93 rfl rfl ?_
      obtain ⟨h5, hf⟩ := gd_some hf
      refine a_iald (pc := 94) (kb := 1) (j := 11) F rfl rfl h5 dX11_house_94 ?_
      obtain rfl := Sum.inl.inj (Option.some.inj hf)
      exact hret _ _ _ _ (Nat.zero_le _) (Nat.zero_le _) rfl dX11_house_95
    replace hf := it_neg h3 hf
    by_cases h4 : x2 = 4
    · replace hf := it_pos h4 hf
      refine a_tin (pc := 6) (tgt := 96) (k := 4) F dX11_house_6 (by rw [h4]; decide) (by decide) (by decide) rfl (by decide) ?_
      refine a_aloadn (pc := 96) (j := 0) F dX11_house_96 rfl rfl ?_
      refine a_get (pc := 97) (kb := 0) (j := 0) (f := 7) F iW_X11 rfl rfl rfl (by decide) (tl q2_63) (fun _ h => h) rfl dX11_house_97 ?_
      refine a_iloadn (pc := 100) (j := 1) F dX11_house_100 rfl rfl ?_
      obtain ⟨t6, ht6, hf⟩ := bd_some hf
      refine a_callV (pc := 101) (bs' := [bX11 y a0 z0_tape z0_tokens z0_hillReader z0_lawReader (a1 0) (a2 0) z0_diary z0_spare z0_draft z0_spareDiary z0_guess z0_past z0_imageHill z0_imageRules z0_imageDiary v0, bX3 y a1 v1, bX5 y a2 v2]) (kb := 1) (j := 0) F [1] (c_X3_thingsIn l D y ek n a1 _ _ _ ht6) (cwV 1 F.1.2.2.2.2 (gV q4_203 q3_86 q3_87 q1_3 q3_88) rfl rfl rfl (by decide +kernel) ⟨Nat.le_of_ble_eq_true rfl, Nat.le_of_ble_eq_true rfl⟩) rfl rfl rfl rfl (by decide) rfl rfl rfl rfl rfl rfl (Nat.le_of_ble_eq_true rfl) ⟨Nat.zero_le _, Nat.zero_le _⟩ dX11_house_101 ?_
      obtain rfl := Sum.inl.inj (Option.some.inj hf)
      exact hret _ _ _ _ (Nat.zero_le _) (Nat.zero_le _) rfl dX11_house_104
    replace hf := it_neg h4 hf
    by_cases h5 : x2 = 5
    · replace hf := it_pos h5 hf
      refine a_tin (pc := 6) (tgt := 105) (k := 5) F dX11_house_6 (by rw [h5]; decide) (by decide) (by decide) rfl (by decide) ?_
      refine a_aloadn (pc := 105) (j := 0) F dX11_house_105 rfl rfl ?_
      refine a_get (pc := 106) (kb := 0) (j := 0) (f := 7) F iW_X11 rfl rfl rfl (by decide) (tl q2_63) (fun _ h => h) rfl dX11_house_106 ?_
      refine a_aloadn (pc := 109) (j := 0) F dX11_house_109 rfl rfl ?_
      refine a_get (pc := 110) (kb := 0) (j := 0) (f := 8) F iW_X11 rfl rfl rfl (by decide) (tl q2_64) (fun _ h => h) rfl dX11_house_110 ?_
      refine a_iloadn (pc := 113) (j := 1) F dX11_house_113 rfl rfl ?_
      obtain ⟨t7, ht7, hf⟩ := bd_some hf
      refine a_callV (pc := 114) (bs' := [bX11 y a0 z0_tape z0_tokens z0_hillReader z0_lawReader (a1 0) (a2 0) z0_diary z0_spare z0_draft z0_spareDiary z0_guess z0_past z0_imageHill z0_imageRules z0_imageDiary v0, bX3 y a1 v1, bX5 y a2 t7.2]) (kb := 1) (j := 0) F [1, 2] (c_X3_paysBy l D y ek n a1 a2 _ _ _ _ ht7) (cwV 2 F.1.2.2.2.2 (gV q4_204 q3_26 q3_27 q1_3 q3_28) rfl rfl rfl (by decide +kernel) ⟨Nat.le_of_ble_eq_true rfl, Nat.le_of_ble_eq_true rfl⟩) rfl rfl rfl rfl (by decide) rfl rfl rfl rfl rfl rfl (Nat.le_of_ble_eq_true rfl) ⟨Nat.zero_le _, Nat.zero_le _⟩ dX11_house_114 ?_
      obtain rfl := Sum.inl.inj (Option.some.inj hf)
      exact hret _ _ _ _ (Nat.zero_le _) (Nat.zero_le _) rfl dX11_house_117
    replace hf := it_neg h5 hf
    by_cases h6 : x2 = 6
    · replace hf := it_pos h6 hf
      refine a_tin (pc := 6) (tgt := 118) (k := 6) F dX11_house_6 (by rw [h6]; decide) (by decide) (by decide) rfl (by decide) ?_
      refine a_aloadn (pc := 118) (j := 0) F dX11_house_118 rfl rfl ?_
      refine a_get (pc := 119) (kb := 0) (j := 0) (f := 7) F iW_X11 rfl rfl rfl (by decide) (tl q2_63) (fun _ h => h) rfl dX11_house_119 ?_
      refine a_aloadn (pc := 122) (j := 0) F dX11_house_122 rfl rfl ?_
      refine a_get (pc := 123) (kb := 0) (j := 0) (f := 8) F iW_X11 rfl rfl rfl (by decide) (tl q2_64) (fun _ h => h) rfl dX11_house_123 ?_
      refine a_iloadn (pc := 126) (j := 1) F dX11_house_126 rfl rfl ?_
      obtain ⟨t8, ht8, hf⟩ := bd_some hf
      refine a_callV (pc := 127) (bs' := [bX11 y a0 z0_tape z0_tokens z0_hillReader z0_lawReader (a1 0) (a2 0) z0_diary z0_spare z0_draft z0_spareDiary z0_guess z0_past z0_imageHill z0_imageRules z0_imageDiary v0, bX3 y a1 v1, bX5 y a2 t8.2]) (kb := 1) (j := 0) F [1, 2] (c_X3_luresBy l D y ek n a1 a2 _ _ _ _ ht8) (cwV 2 F.1.2.2.2.2 (gV q4_205 q3_2 q3_3 q1_3 q3_4) rfl rfl rfl (by decide +kernel) ⟨Nat.le_of_ble_eq_true rfl, Nat.le_of_ble_eq_true rfl⟩) rfl rfl rfl rfl (by decide) rfl rfl rfl rfl rfl rfl (Nat.le_of_ble_eq_true rfl) ⟨Nat.zero_le _, Nat.zero_le _⟩ dX11_house_127 ?_
      obtain rfl := Sum.inl.inj (Option.some.inj hf)
      exact hret _ _ _ _ (Nat.zero_le _) (Nat.zero_le _) rfl dX11_house_130
    replace hf := it_neg h6 hf
    by_cases h7 : x2 = 7
    · replace hf := it_pos h7 hf
      refine a_tin (pc := 6) (tgt := 131) (k := 7) F dX11_house_6 (by rw [h7]; decide) (by decide) (by decide) rfl (by decide) ?_
      refine a_aloadn (pc := 131) (j := 0) F dX11_house_131 rfl rfl ?_
      refine a_get (pc := 132) (kb := 0) (j := 0) (f := 7) F iW_X11 rfl rfl rfl (by decide) (tl q2_63) (fun _ h => h) rfl dX11_house_132 ?_
      refine a_iloadn (pc := 135) (j := 1) F dX11_house_135 rfl rfl ?_
      obtain ⟨t9, ht9, hf⟩ := bd_some hf
      refine a_callV (pc := 136) (bs' := [bX11 y a0 z0_tape z0_tokens z0_hillReader z0_lawReader (a1 0) (a2 0) z0_diary z0_spare z0_draft z0_spareDiary z0_guess z0_past z0_imageHill z0_imageRules z0_imageDiary v0, bX3 y a1 v1, bX5 y a2 v2]) (kb := 1) (j := 0) F [1] (c_X3_shareOf l D y ek n a1 _ _ _ ht9) (cwV 1 F.1.2.2.2.2 (gV q4_206 q4_207 q4_208 q1_3 q4_209) rfl rfl rfl (by decide +kernel) ⟨Nat.le_of_ble_eq_true rfl, Nat.le_of_ble_eq_true rfl⟩) rfl rfl rfl rfl (by decide) rfl rfl rfl rfl rfl rfl (Nat.le_of_ble_eq_true rfl) ⟨Nat.zero_le _, Nat.zero_le _⟩ dX11_house_136 ?_
      obtain rfl := Sum.inl.inj (Option.some.inj hf)
      exact hret _ _ _ _ (Nat.zero_le _) (Nat.zero_le _) rfl dX11_house_139
    replace hf := it_neg h7 hf
    by_cases h8 : x2 = 8
    · replace hf := it_pos h8 hf
      refine a_tin (pc := 6) (tgt := 140) (k := 8) F dX11_house_6 (by rw [h8]; decide) (by decide) (by decide) rfl (by decide) ?_
      refine a_aloadn (pc := 140) (j := 0) F dX11_house_140 rfl rfl ?_
      refine a_get (pc := 141) (kb := 0) (j := 0) (f := 7) F iW_X11 rfl rfl rfl (by decide) (tl q2_63) (fun _ h => h) rfl dX11_house_141 ?_
      refine a_iloadn (pc := 144) (j := 1) F dX11_house_144 rfl rfl ?_
      obtain ⟨t10, ht10, hf⟩ := bd_some hf
      refine a_callV (pc := 145) (bs' := [bX11 y a0 z0_tape z0_tokens z0_hillReader z0_lawReader (a1 0) (a2 0) z0_diary z0_spare z0_draft z0_spareDiary z0_guess z0_past z0_imageHill z0_imageRules z0_imageDiary v0, bX3 y a1 v1, bX5 y a2 v2]) (kb := 1) (j := 0) F [1] (c_X3_corkOf l D y ek n a1 _ _ _ ht10) (cwV 1 F.1.2.2.2.2 (gV q4_210 q4_211 q4_212 q1_3 q4_213) rfl rfl rfl (by decide +kernel) ⟨Nat.le_of_ble_eq_true rfl, Nat.le_of_ble_eq_true rfl⟩) rfl rfl rfl rfl (by decide) rfl rfl rfl rfl rfl rfl (Nat.le_of_ble_eq_true rfl) ⟨Nat.zero_le _, Nat.zero_le _⟩ dX11_house_145 ?_
      obtain rfl := Sum.inl.inj (Option.some.inj hf)
      exact hret _ _ _ _ (Nat.zero_le _) (Nat.zero_le _) rfl dX11_house_148
    replace hf := it_neg h8 hf
    refine a_tout (pc := 6) (tgt := 149) F dX11_house_6 (by have := sw_ne 0 h0 (by decide); have := sw_ne 1 h1 (by decide); have := sw_ne 2 h2 (by decide); have := sw_ne 3 h3 (by decide); have := sw_ne 4 h4 (by decide); have := sw_ne 5 h5 (by decide); have := sw_ne 6 h6 (by decide); have := sw_ne 7 h7 (by decide); have := sw_ne 8 h8 (by decide); omega) (by decide) ?_
    exact absurd hf (by simp)
  · replace hf := sm_inr hf
    exact absurd hf (by simp)
set_option maxHeartbeats 4000000 in
set_option maxRecDepth 100000 in
theorem x_X11_house (l : Launch) (hlt : l.stackTraces = false) (D : va_G) (y : Nat → ClassId) (ek : EK) (n : Nat) (a0 : Nat → Nat) (a1 : Nat → Nat) (a2 : Nat → Nat) (z0_tape : Nat) (z0_tokens : Nat) (z0_hillReader : Nat) (z0_lawReader : Nat) (z0_diary : Nat) (z0_spare : Nat) (z0_draft : Nat) (z0_spareDiary : Nat) (z0_guess : Nat) (z0_past : Nat) (z0_imageHill : Nat) (z0_imageRules : Nat) (z0_imageDiary : Nat) (v0 : St) (v1 : St) (v2 : St) (x1 : Int32) (x2 : Int32) (res : Nat × St) (hf : m_X11_house n v0 v1 v2 x1 x2 = some (Sum.inr res)) : CX l yX11_house wX11_house { frames := 7, cells := 1, slots := 6, locals := 103 } D y ek [.ref (a0 0), .int x1, .int x2] [bX11 y a0 z0_tape z0_tokens z0_hillReader z0_lawReader (a1 0) (a2 0) z0_diary z0_spare z0_draft z0_spareDiary z0_guess z0_past z0_imageHill z0_imageRules z0_imageDiary v0, bX3 y a1 v1, bX5 y a2 v2] (eX.getD res.1 "") [bX11 y a0 z0_tape z0_tokens z0_hillReader z0_lawReader (a1 0) (a2 0) z0_diary z0_spare z0_draft z0_spareDiary z0_guess z0_past z0_imageHill z0_imageRules z0_imageDiary v0, bX3 y a1 v1, bX5 y a2 res.2] 1 6 := by
  unfold m_X11_house at hf
  refine cx_of (cc := cX11_house) (maxL := 3) hlt (by decide) rfl (Nat.le_of_ble_eq_true rfl) (Nat.le_refl 1) (Nat.le_refl 6) ?_
  intro p e s m below meth c Q A F hthr hout
  refine a_lv (lv' := [(0, .ref (a0 0)), (1, .int x1), (2, .int x2)]) rfl ?_
  refine a_aloadn (pc := 0) (j := 0) F dX11_house_0 rfl rfl ?_
  refine a_iloadn (pc := 1) (j := 1) F dX11_house_1 rfl rfl ?_
  obtain ⟨t1, ht1a, hf⟩ := bd_some hf
  rcases t1 with t1a | t1x
  · replace hf := sm_inl hf
    refine a_callVv (pc := 2) (bs' := [bX11 y a0 z0_tape z0_tokens z0_hillReader z0_lawReader (a1 0) (a2 0) z0_diary z0_spare z0_draft z0_spareDiary z0_guess z0_past z0_imageHill z0_imageRules z0_imageDiary v0, bX3 y a1 v1, bX5 y a2 v2]) (kb := 0) (j := 0) F [0, 1] (c_X11_checkHouse l D y ek n a0 a1 z0_tape z0_tokens z0_hillReader z0_lawReader (a2 0) z0_diary z0_spare z0_draft z0_spareDiary z0_guess z0_past z0_imageHill z0_imageRules z0_imageDiary _ _ _ _ ht1a) (cwV 1 F.1.2.2.2.2 (gV q4_199 q4_201 qs_18 q1_1 q4_202) rfl rfl rfl (by decide +kernel) ⟨Nat.le_of_ble_eq_true rfl, Nat.le_of_ble_eq_true rfl⟩) rfl rfl rfl rfl (by decide) rfl rfl rfl rfl rfl rfl (Nat.le_of_ble_eq_true rfl) ⟨Nat.zero_le _, Nat.zero_le _⟩ dX11_house_2 ?_
    refine a_iloadn (pc := 5) (j := 2) F dX11_house_5 rfl rfl ?_
    by_cases h0 : x2 = 0
    · replace hf := it_pos h0 hf
      refine a_tin (pc := 6) (tgt := 56) (k := 0) F dX11_house_6 (by rw [h0]; decide) (by decide) (by decide) rfl (by decide) ?_
      refine a_aloadn (pc := 56) (j := 0) F dX11_house_56 rfl rfl ?_
      refine a_get (pc := 57) (kb := 0) (j := 0) (f := 7) F iW_X11 rfl rfl rfl (by decide) (tl q2_63) (fun _ h => h) rfl dX11_house_57 ?_
      refine a_get (pc := 60) (kb := 1) (j := 0) (f := 13) F iW_X3 rfl rfl rfl (by decide) (tl q1_103) (fun _ h => h) rfl dX11_house_60 ?_
      refine a_iloadn (pc := 63) (j := 1) F dX11_house_63 rfl rfl ?_
      obtain ⟨h2, hf⟩ := gd_some hf
      refine a_iald (pc := 64) (kb := 1) (j := 5) F rfl rfl h2 dX11_house_64 ?_
      exact absurd hf (by simp)
    replace hf := it_neg h0 hf
    by_cases h1 : x2 = 1
    · replace hf := it_pos h1 hf
      refine a_tin (pc := 6) (tgt := 66) (k := 1) F dX11_house_6 (by rw [h1]; decide) (by decide) (by decide) rfl (by decide) ?_
      refine a_aloadn (pc := 66) (j := 0) F dX11_house_66 rfl rfl ?_
      refine a_get (pc := 67) (kb := 0) (j := 0) (f := 7) F iW_X11 rfl rfl rfl (by decide) (tl q2_63) (fun _ h => h) rfl dX11_house_67 ?_
      refine a_get (pc := 70) (kb := 1) (j := 0) (f := 14) F iW_X3 rfl rfl rfl (by decide) (tl q1_106) (fun _ h => h) rfl dX11_house_70 ?_
      refine a_iloadn (pc := 73) (j := 1) F dX11_house_73 rfl rfl ?_
      obtain ⟨h3, hf⟩ := gd_some hf
      refine a_iald (pc := 74) (kb := 1) (j := 6) F rfl rfl h3 dX11_house_74 ?_
      exact absurd hf (by simp)
    replace hf := it_neg h1 hf
    by_cases h2 : x2 = 2
    · replace hf := it_pos h2 hf
      refine a_tin (pc := 6) (tgt := 76) (k := 2) F dX11_house_6 (by rw [h2]; decide) (by decide) (by decide) rfl (by decide) ?_
      refine a_aloadn (pc := 76) (j := 0) F dX11_house_76 rfl rfl ?_
      refine a_get (pc := 77) (kb := 0) (j := 0) (f := 7) F iW_X11 rfl rfl rfl (by decide) (tl q2_63) (fun _ h => h) rfl dX11_house_77 ?_
      refine a_get (pc := 80) (kb := 1) (j := 0) (f := 18) F iW_X3 rfl rfl rfl (by decide) (tl q1_118) (fun _ h => h) rfl dX11_house_80 ?_
      refine a_iloadn (pc := 83) (j := 1) F dX11_house_83 rfl rfl ?_
      obtain ⟨h4, hf⟩ := gd_some hf
      refine a_iald (pc := 84) (kb := 1) (j := 10) F rfl rfl h4 dX11_house_84 ?_
      exact absurd hf (by simp)
    replace hf := it_neg h2 hf
    by_cases h3 : x2 = 3
    · replace hf := it_pos h3 hf
      refine a_tin (pc := 6) (tgt := 86) (k := 3) F dX11_house_6 (by rw [h3]; decide) (by decide) (by decide) rfl (by decide) ?_
      refine a_aloadn (pc := 86) (j := 0) F dX11_house_86 rfl rfl ?_
      refine a_get (pc := 87) (kb := 0) (j := 0) (f := 7) F iW_X11 rfl rfl rfl (by decide) (tl q2_63) (fun _ h => h) rfl dX11_house_87 ?_
      refine a_get (pc := 90) (kb := 1) (j := 0) (f := 19) F iW_X3 rfl rfl rfl (by decide) (tl q1_120) (fun _ h => h) rfl dX11_house_90 ?_
      refine a_iloadn (pc := 93) (j := 1) F dX11_house_93 rfl rfl ?_
      obtain ⟨h5, hf⟩ := gd_some hf
      refine a_iald (pc := 94) (kb := 1) (j := 11) F rfl rfl h5 dX11_house_94 ?_
      exact absurd hf (by simp)
    replace hf := it_neg h3 hf
    by_cases h4 : x2 = 4
    · replace hf := it_pos h4 hf
      refine a_tin (pc := 6) (tgt := 96) (k := 4) F dX11_house_6 (by rw [h4]; decide) (by decide) (by decide) rfl (by decide) ?_
      refine a_aloadn (pc := 96) (j := 0) F dX11_house_96 rfl rfl ?_
      refine a_get (pc := 97) (kb := 0) (j := 0) (f := 7) F iW_X11 rfl rfl rfl (by decide) (tl q2_63) (fun _ h => h) rfl dX11_house_97 ?_
      refine a_iloadn (pc := 100) (j := 1) F dX11_house_100 rfl rfl ?_
      obtain ⟨t6, ht6, hf⟩ := bd_some hf
      refine a_callV (pc := 101) (bs' := [bX11 y a0 z0_tape z0_tokens z0_hillReader z0_lawReader (a1 0) (a2 0) z0_diary z0_spare z0_draft z0_spareDiary z0_guess z0_past z0_imageHill z0_imageRules z0_imageDiary v0, bX3 y a1 v1, bX5 y a2 v2]) (kb := 1) (j := 0) F [1] (c_X3_thingsIn l D y ek n a1 _ _ _ ht6) (cwV 1 F.1.2.2.2.2 (gV q4_203 q3_86 q3_87 q1_3 q3_88) rfl rfl rfl (by decide +kernel) ⟨Nat.le_of_ble_eq_true rfl, Nat.le_of_ble_eq_true rfl⟩) rfl rfl rfl rfl (by decide) rfl rfl rfl rfl rfl rfl (Nat.le_of_ble_eq_true rfl) ⟨Nat.zero_le _, Nat.zero_le _⟩ dX11_house_101 ?_
      exact absurd hf (by simp)
    replace hf := it_neg h4 hf
    by_cases h5 : x2 = 5
    · replace hf := it_pos h5 hf
      refine a_tin (pc := 6) (tgt := 105) (k := 5) F dX11_house_6 (by rw [h5]; decide) (by decide) (by decide) rfl (by decide) ?_
      refine a_aloadn (pc := 105) (j := 0) F dX11_house_105 rfl rfl ?_
      refine a_get (pc := 106) (kb := 0) (j := 0) (f := 7) F iW_X11 rfl rfl rfl (by decide) (tl q2_63) (fun _ h => h) rfl dX11_house_106 ?_
      refine a_aloadn (pc := 109) (j := 0) F dX11_house_109 rfl rfl ?_
      refine a_get (pc := 110) (kb := 0) (j := 0) (f := 8) F iW_X11 rfl rfl rfl (by decide) (tl q2_64) (fun _ h => h) rfl dX11_house_110 ?_
      refine a_iloadn (pc := 113) (j := 1) F dX11_house_113 rfl rfl ?_
      obtain ⟨t7, ht7, hf⟩ := bd_some hf
      refine a_callV (pc := 114) (bs' := [bX11 y a0 z0_tape z0_tokens z0_hillReader z0_lawReader (a1 0) (a2 0) z0_diary z0_spare z0_draft z0_spareDiary z0_guess z0_past z0_imageHill z0_imageRules z0_imageDiary v0, bX3 y a1 v1, bX5 y a2 t7.2]) (kb := 1) (j := 0) F [1, 2] (c_X3_paysBy l D y ek n a1 a2 _ _ _ _ ht7) (cwV 2 F.1.2.2.2.2 (gV q4_204 q3_26 q3_27 q1_3 q3_28) rfl rfl rfl (by decide +kernel) ⟨Nat.le_of_ble_eq_true rfl, Nat.le_of_ble_eq_true rfl⟩) rfl rfl rfl rfl (by decide) rfl rfl rfl rfl rfl rfl (Nat.le_of_ble_eq_true rfl) ⟨Nat.zero_le _, Nat.zero_le _⟩ dX11_house_114 ?_
      exact absurd hf (by simp)
    replace hf := it_neg h5 hf
    by_cases h6 : x2 = 6
    · replace hf := it_pos h6 hf
      refine a_tin (pc := 6) (tgt := 118) (k := 6) F dX11_house_6 (by rw [h6]; decide) (by decide) (by decide) rfl (by decide) ?_
      refine a_aloadn (pc := 118) (j := 0) F dX11_house_118 rfl rfl ?_
      refine a_get (pc := 119) (kb := 0) (j := 0) (f := 7) F iW_X11 rfl rfl rfl (by decide) (tl q2_63) (fun _ h => h) rfl dX11_house_119 ?_
      refine a_aloadn (pc := 122) (j := 0) F dX11_house_122 rfl rfl ?_
      refine a_get (pc := 123) (kb := 0) (j := 0) (f := 8) F iW_X11 rfl rfl rfl (by decide) (tl q2_64) (fun _ h => h) rfl dX11_house_123 ?_
      refine a_iloadn (pc := 126) (j := 1) F dX11_house_126 rfl rfl ?_
      obtain ⟨t8, ht8, hf⟩ := bd_some hf
      refine a_callV (pc := 127) (bs' := [bX11 y a0 z0_tape z0_tokens z0_hillReader z0_lawReader (a1 0) (a2 0) z0_diary z0_spare z0_draft z0_spareDiary z0_guess z0_past z0_imageHill z0_imageRules z0_imageDiary v0, bX3 y a1 v1, bX5 y a2 t8.2]) (kb := 1) (j := 0) F [1, 2] (c_X3_luresBy l D y ek n a1 a2 _ _ _ _ ht8) (cwV 2 F.1.2.2.2.2 (gV q4_205 q3_2 q3_3 q1_3 q3_4) rfl rfl rfl (by decide +kernel) ⟨Nat.le_of_ble_eq_true rfl, Nat.le_of_ble_eq_true rfl⟩) rfl rfl rfl rfl (by decide) rfl rfl rfl rfl rfl rfl (Nat.le_of_ble_eq_true rfl) ⟨Nat.zero_le _, Nat.zero_le _⟩ dX11_house_127 ?_
      exact absurd hf (by simp)
    replace hf := it_neg h6 hf
    by_cases h7 : x2 = 7
    · replace hf := it_pos h7 hf
      refine a_tin (pc := 6) (tgt := 131) (k := 7) F dX11_house_6 (by rw [h7]; decide) (by decide) (by decide) rfl (by decide) ?_
      refine a_aloadn (pc := 131) (j := 0) F dX11_house_131 rfl rfl ?_
      refine a_get (pc := 132) (kb := 0) (j := 0) (f := 7) F iW_X11 rfl rfl rfl (by decide) (tl q2_63) (fun _ h => h) rfl dX11_house_132 ?_
      refine a_iloadn (pc := 135) (j := 1) F dX11_house_135 rfl rfl ?_
      obtain ⟨t9, ht9, hf⟩ := bd_some hf
      refine a_callV (pc := 136) (bs' := [bX11 y a0 z0_tape z0_tokens z0_hillReader z0_lawReader (a1 0) (a2 0) z0_diary z0_spare z0_draft z0_spareDiary z0_guess z0_past z0_imageHill z0_imageRules z0_imageDiary v0, bX3 y a1 v1, bX5 y a2 v2]) (kb := 1) (j := 0) F [1] (c_X3_shareOf l D y ek n a1 _ _ _ ht9) (cwV 1 F.1.2.2.2.2 (gV q4_206 q4_207 q4_208 q1_3 q4_209) rfl rfl rfl (by decide +kernel) ⟨Nat.le_of_ble_eq_true rfl, Nat.le_of_ble_eq_true rfl⟩) rfl rfl rfl rfl (by decide) rfl rfl rfl rfl rfl rfl (Nat.le_of_ble_eq_true rfl) ⟨Nat.zero_le _, Nat.zero_le _⟩ dX11_house_136 ?_
      exact absurd hf (by simp)
    replace hf := it_neg h7 hf
    by_cases h8 : x2 = 8
    · replace hf := it_pos h8 hf
      refine a_tin (pc := 6) (tgt := 140) (k := 8) F dX11_house_6 (by rw [h8]; decide) (by decide) (by decide) rfl (by decide) ?_
      refine a_aloadn (pc := 140) (j := 0) F dX11_house_140 rfl rfl ?_
      refine a_get (pc := 141) (kb := 0) (j := 0) (f := 7) F iW_X11 rfl rfl rfl (by decide) (tl q2_63) (fun _ h => h) rfl dX11_house_141 ?_
      refine a_iloadn (pc := 144) (j := 1) F dX11_house_144 rfl rfl ?_
      obtain ⟨t10, ht10, hf⟩ := bd_some hf
      refine a_callV (pc := 145) (bs' := [bX11 y a0 z0_tape z0_tokens z0_hillReader z0_lawReader (a1 0) (a2 0) z0_diary z0_spare z0_draft z0_spareDiary z0_guess z0_past z0_imageHill z0_imageRules z0_imageDiary v0, bX3 y a1 v1, bX5 y a2 v2]) (kb := 1) (j := 0) F [1] (c_X3_corkOf l D y ek n a1 _ _ _ ht10) (cwV 1 F.1.2.2.2.2 (gV q4_210 q4_211 q4_212 q1_3 q4_213) rfl rfl rfl (by decide +kernel) ⟨Nat.le_of_ble_eq_true rfl, Nat.le_of_ble_eq_true rfl⟩) rfl rfl rfl rfl (by decide) rfl rfl rfl rfl rfl rfl (Nat.le_of_ble_eq_true rfl) ⟨Nat.zero_le _, Nat.zero_le _⟩ dX11_house_145 ?_
      exact absurd hf (by simp)
    replace hf := it_neg h8 hf
    refine a_tout (pc := 6) (tgt := 149) F dX11_house_6 (by have := sw_ne 0 h0 (by decide); have := sw_ne 1 h1 (by decide); have := sw_ne 2 h2 (by decide); have := sw_ne 3 h3 (by decide); have := sw_ne 4 h4 (by decide); have := sw_ne 5 h5 (by decide); have := sw_ne 6 h6 (by decide); have := sw_ne 7 h7 (by decide); have := sw_ne 8 h8 (by decide); omega) (by decide) ?_
    obtain rfl := Sum.inr.inj (Option.some.inj hf)
    exact hthr 149 190 192 _ _ xw_3 dX11_house_149 dX11_house_152 dX11_house_153 dX11_house_156 (Nat.le_of_ble_eq_true rfl) (Nat.le_of_ble_eq_true rfl) (Nat.le_of_ble_eq_true rfl) (Nat.le_of_ble_eq_true rfl)
  · replace hf := sm_inr hf
    obtain rfl := Sum.inr.inj (Option.some.inj hf)
    exact a_callVx (pc := 2) (bs' := [bX11 y a0 z0_tape z0_tokens z0_hillReader z0_lawReader (a1 0) (a2 0) z0_diary z0_spare z0_draft z0_spareDiary z0_guess z0_past z0_imageHill z0_imageRules z0_imageDiary v0, bX3 y a1 v1, bX5 y a2 v2]) (kb := 0) (j := 0) F [0, 1] (x_X11_checkHouse l hlt D y ek n a0 a1 z0_tape z0_tokens z0_hillReader z0_lawReader (a2 0) z0_diary z0_spare z0_draft z0_spareDiary z0_guess z0_past z0_imageHill z0_imageRules z0_imageDiary _ _ _ _ ht1a) (cwV 1 F.1.2.2.2.2 (gV q4_199 q4_201 qs_18 q1_1 q4_202) rfl rfl rfl (by decide +kernel) ⟨Nat.le_of_ble_eq_true rfl, Nat.le_of_ble_eq_true rfl⟩) rfl rfl rfl rfl (by decide) rfl rfl rfl rfl rfl rfl (Nat.le_of_ble_eq_true rfl) ⟨Nat.le_of_ble_eq_true rfl, Nat.le_of_ble_eq_true rfl⟩ dX11_house_2 (fun H1 locs1 ls q9 ce h1 h2 h3 h4 h5 h6 h7 => hout H1 locs1 ls _ _ _ _ q9 ce h1 h2 h3 (Nat.le_of_ble_eq_true rfl) (Nat.le_of_ble_eq_true rfl) h5 h6 h7)

abbrev wX11_thing : List Cond := Cond.code yX11_thing cX11_thing 3 (some .int) :: WALL
def m_X11_thing (n : Nat) (v0 : St) (v1 : St) (x1 : Int32) (x2 : Int32) : Option ((Int32) ⊕ (Nat)) :=
bd (m_X11_checkThing n v0 v1 x1) (fun t1 => sm t1 (fun t1a =>
(if x2 = 0 then
(if ix x1 10 then some (Sum.inl (v1 15 (x1).toNatClampNeg)) else none)
else
(if x2 = 1 then
(if ix x1 10 then some (Sum.inl (v1 16 (x1).toNatClampNeg)) else none)
else
(if x2 = 2 then
(if ix x1 10 then some (Sum.inl (v1 17 (x1).toNatClampNeg)) else none)
else
some (Sum.inr 3))))) (fun t1x => some (Sum.inr t1x)))
set_option maxHeartbeats 4000000 in
set_option maxRecDepth 100000 in
theorem c_X11_thing (l : Launch) (D : va_G) (y : Nat → ClassId) (ek : EK) (n : Nat) (a0 : Nat → Nat) (a1 : Nat → Nat) (z0_tape : Nat) (z0_tokens : Nat) (z0_hillReader : Nat) (z0_lawReader : Nat) (z0_rules : Nat) (z0_diary : Nat) (z0_spare : Nat) (z0_draft : Nat) (z0_spareDiary : Nat) (z0_guess : Nat) (z0_past : Nat) (z0_imageHill : Nat) (z0_imageRules : Nat) (z0_imageDiary : Nat) (v0 : St) (v1 : St) (x1 : Int32) (x2 : Int32) (res : Int32) (hf : m_X11_thing n v0 v1 x1 x2 = some (Sum.inl res)) : CI l yX11_thing wX11_thing { frames := 7, cells := 0, slots := 0, locals := 103 } D y ek [.ref (a0 0), .int x1, .int x2] [bX11 y a0 z0_tape z0_tokens z0_hillReader z0_lawReader (a1 0) z0_rules z0_diary z0_spare z0_draft z0_spareDiary z0_guess z0_past z0_imageHill z0_imageRules z0_imageDiary v0, bX3 y a1 v1] (res) [bX11 y a0 z0_tape z0_tokens z0_hillReader z0_lawReader (a1 0) z0_rules z0_diary z0_spare z0_draft z0_spareDiary z0_guess z0_past z0_imageHill z0_imageRules z0_imageDiary v0, bX3 y a1 v1] 0 0 := by
  unfold m_X11_thing at hf
  refine ci_of (cc := cX11_thing) (maxL := 3) (by decide) rfl rfl (Nat.le_of_ble_eq_true rfl) ?_
  intro p e s m below meth c Q A F hret
  refine a_lv (lv' := [(0, .ref (a0 0)), (1, .int x1), (2, .int x2)]) rfl ?_
  refine a_aloadn (pc := 0) (j := 0) F dX11_thing_0 rfl rfl ?_
  refine a_iloadn (pc := 1) (j := 1) F dX11_thing_1 rfl rfl ?_
  obtain ⟨t1, ht1a, hf⟩ := bd_some hf
  rcases t1 with t1a | t1x
  · replace hf := sm_inl hf
    refine a_callVv (pc := 2) (bs' := [bX11 y a0 z0_tape z0_tokens z0_hillReader z0_lawReader (a1 0) z0_rules z0_diary z0_spare z0_draft z0_spareDiary z0_guess z0_past z0_imageHill z0_imageRules z0_imageDiary v0, bX3 y a1 v1]) (kb := 0) (j := 0) F [0, 1] (c_X11_checkThing l D y ek n a0 a1 z0_tape z0_tokens z0_hillReader z0_lawReader z0_rules z0_diary z0_spare z0_draft z0_spareDiary z0_guess z0_past z0_imageHill z0_imageRules z0_imageDiary _ _ _ _ ht1a) (cwV 1 F.1.2.2.2.2 (gV q4_221 q4_223 qs_19 q1_1 q4_224) rfl rfl rfl (by decide +kernel) ⟨Nat.le_of_ble_eq_true rfl, Nat.le_of_ble_eq_true rfl⟩) rfl rfl rfl rfl (by decide) rfl rfl rfl rfl rfl rfl (Nat.le_of_ble_eq_true rfl) ⟨Nat.zero_le _, Nat.zero_le _⟩ dX11_thing_2 ?_
    refine a_iloadn (pc := 5) (j := 2) F dX11_thing_5 rfl rfl ?_
    by_cases h0 : x2 = 0
    · replace hf := it_pos h0 hf
      refine a_tin (pc := 6) (tgt := 32) (k := 0) F dX11_thing_6 (by rw [h0]; decide) (by decide) (by decide) rfl (by decide) ?_
      refine a_aloadn (pc := 32) (j := 0) F dX11_thing_32 rfl rfl ?_
      refine a_get (pc := 33) (kb := 0) (j := 0) (f := 7) F iW_X11 rfl rfl rfl (by decide) (tl q2_63) (fun _ h => h) rfl dX11_thing_33 ?_
      refine a_get (pc := 36) (kb := 1) (j := 0) (f := 15) F iW_X3 rfl rfl rfl (by decide) (tl q1_109) (fun _ h => h) rfl dX11_thing_36 ?_
      refine a_iloadn (pc := 39) (j := 1) F dX11_thing_39 rfl rfl ?_
      obtain ⟨h2, hf⟩ := gd_some hf
      refine a_iald (pc := 40) (kb := 1) (j := 7) F rfl rfl h2 dX11_thing_40 ?_
      obtain rfl := Sum.inl.inj (Option.some.inj hf)
      exact hret _ _ _ _ (Nat.zero_le _) (Nat.zero_le _) rfl dX11_thing_41
    replace hf := it_neg h0 hf
    by_cases h1 : x2 = 1
    · replace hf := it_pos h1 hf
      refine a_tin (pc := 6) (tgt := 42) (k := 1) F dX11_thing_6 (by rw [h1]; decide) (by decide) (by decide) rfl (by decide) ?_
      refine a_aloadn (pc := 42) (j := 0) F dX11_thing_42 rfl rfl ?_
      refine a_get (pc := 43) (kb := 0) (j := 0) (f := 7) F iW_X11 rfl rfl rfl (by decide) (tl q2_63) (fun _ h => h) rfl dX11_thing_43 ?_
      refine a_get (pc := 46) (kb := 1) (j := 0) (f := 16) F iW_X3 rfl rfl rfl (by decide) (tl q1_111) (fun _ h => h) rfl dX11_thing_46 ?_
      refine a_iloadn (pc := 49) (j := 1) F dX11_thing_49 rfl rfl ?_
      obtain ⟨h3, hf⟩ := gd_some hf
      refine a_iald (pc := 50) (kb := 1) (j := 8) F rfl rfl h3 dX11_thing_50 ?_
      obtain rfl := Sum.inl.inj (Option.some.inj hf)
      exact hret _ _ _ _ (Nat.zero_le _) (Nat.zero_le _) rfl dX11_thing_51
    replace hf := it_neg h1 hf
    by_cases h2 : x2 = 2
    · replace hf := it_pos h2 hf
      refine a_tin (pc := 6) (tgt := 52) (k := 2) F dX11_thing_6 (by rw [h2]; decide) (by decide) (by decide) rfl (by decide) ?_
      refine a_aloadn (pc := 52) (j := 0) F dX11_thing_52 rfl rfl ?_
      refine a_get (pc := 53) (kb := 0) (j := 0) (f := 7) F iW_X11 rfl rfl rfl (by decide) (tl q2_63) (fun _ h => h) rfl dX11_thing_53 ?_
      refine a_get (pc := 56) (kb := 1) (j := 0) (f := 17) F iW_X3 rfl rfl rfl (by decide) (tl q1_114) (fun _ h => h) rfl dX11_thing_56 ?_
      refine a_iloadn (pc := 59) (j := 1) F dX11_thing_59 rfl rfl ?_
      obtain ⟨h4, hf⟩ := gd_some hf
      refine a_iald (pc := 60) (kb := 1) (j := 9) F rfl rfl h4 dX11_thing_60 ?_
      obtain rfl := Sum.inl.inj (Option.some.inj hf)
      exact hret _ _ _ _ (Nat.zero_le _) (Nat.zero_le _) rfl dX11_thing_61
    replace hf := it_neg h2 hf
    refine a_tout (pc := 6) (tgt := 62) F dX11_thing_6 (by have := sw_ne 0 h0 (by decide); have := sw_ne 1 h1 (by decide); have := sw_ne 2 h2 (by decide); omega) (by decide) ?_
    exact absurd hf (by simp)
  · replace hf := sm_inr hf
    exact absurd hf (by simp)
set_option maxHeartbeats 4000000 in
set_option maxRecDepth 100000 in
theorem x_X11_thing (l : Launch) (hlt : l.stackTraces = false) (D : va_G) (y : Nat → ClassId) (ek : EK) (n : Nat) (a0 : Nat → Nat) (a1 : Nat → Nat) (z0_tape : Nat) (z0_tokens : Nat) (z0_hillReader : Nat) (z0_lawReader : Nat) (z0_rules : Nat) (z0_diary : Nat) (z0_spare : Nat) (z0_draft : Nat) (z0_spareDiary : Nat) (z0_guess : Nat) (z0_past : Nat) (z0_imageHill : Nat) (z0_imageRules : Nat) (z0_imageDiary : Nat) (v0 : St) (v1 : St) (x1 : Int32) (x2 : Int32) (res : Nat) (hf : m_X11_thing n v0 v1 x1 x2 = some (Sum.inr res)) : CX l yX11_thing wX11_thing { frames := 7, cells := 1, slots := 6, locals := 103 } D y ek [.ref (a0 0), .int x1, .int x2] [bX11 y a0 z0_tape z0_tokens z0_hillReader z0_lawReader (a1 0) z0_rules z0_diary z0_spare z0_draft z0_spareDiary z0_guess z0_past z0_imageHill z0_imageRules z0_imageDiary v0, bX3 y a1 v1] (eX.getD res "") [bX11 y a0 z0_tape z0_tokens z0_hillReader z0_lawReader (a1 0) z0_rules z0_diary z0_spare z0_draft z0_spareDiary z0_guess z0_past z0_imageHill z0_imageRules z0_imageDiary v0, bX3 y a1 v1] 1 6 := by
  unfold m_X11_thing at hf
  refine cx_of (cc := cX11_thing) (maxL := 3) hlt (by decide) rfl (Nat.le_of_ble_eq_true rfl) (Nat.le_refl 1) (Nat.le_refl 6) ?_
  intro p e s m below meth c Q A F hthr hout
  refine a_lv (lv' := [(0, .ref (a0 0)), (1, .int x1), (2, .int x2)]) rfl ?_
  refine a_aloadn (pc := 0) (j := 0) F dX11_thing_0 rfl rfl ?_
  refine a_iloadn (pc := 1) (j := 1) F dX11_thing_1 rfl rfl ?_
  obtain ⟨t1, ht1a, hf⟩ := bd_some hf
  rcases t1 with t1a | t1x
  · replace hf := sm_inl hf
    refine a_callVv (pc := 2) (bs' := [bX11 y a0 z0_tape z0_tokens z0_hillReader z0_lawReader (a1 0) z0_rules z0_diary z0_spare z0_draft z0_spareDiary z0_guess z0_past z0_imageHill z0_imageRules z0_imageDiary v0, bX3 y a1 v1]) (kb := 0) (j := 0) F [0, 1] (c_X11_checkThing l D y ek n a0 a1 z0_tape z0_tokens z0_hillReader z0_lawReader z0_rules z0_diary z0_spare z0_draft z0_spareDiary z0_guess z0_past z0_imageHill z0_imageRules z0_imageDiary _ _ _ _ ht1a) (cwV 1 F.1.2.2.2.2 (gV q4_221 q4_223 qs_19 q1_1 q4_224) rfl rfl rfl (by decide +kernel) ⟨Nat.le_of_ble_eq_true rfl, Nat.le_of_ble_eq_true rfl⟩) rfl rfl rfl rfl (by decide) rfl rfl rfl rfl rfl rfl (Nat.le_of_ble_eq_true rfl) ⟨Nat.zero_le _, Nat.zero_le _⟩ dX11_thing_2 ?_
    refine a_iloadn (pc := 5) (j := 2) F dX11_thing_5 rfl rfl ?_
    by_cases h0 : x2 = 0
    · replace hf := it_pos h0 hf
      refine a_tin (pc := 6) (tgt := 32) (k := 0) F dX11_thing_6 (by rw [h0]; decide) (by decide) (by decide) rfl (by decide) ?_
      refine a_aloadn (pc := 32) (j := 0) F dX11_thing_32 rfl rfl ?_
      refine a_get (pc := 33) (kb := 0) (j := 0) (f := 7) F iW_X11 rfl rfl rfl (by decide) (tl q2_63) (fun _ h => h) rfl dX11_thing_33 ?_
      refine a_get (pc := 36) (kb := 1) (j := 0) (f := 15) F iW_X3 rfl rfl rfl (by decide) (tl q1_109) (fun _ h => h) rfl dX11_thing_36 ?_
      refine a_iloadn (pc := 39) (j := 1) F dX11_thing_39 rfl rfl ?_
      obtain ⟨h2, hf⟩ := gd_some hf
      refine a_iald (pc := 40) (kb := 1) (j := 7) F rfl rfl h2 dX11_thing_40 ?_
      exact absurd hf (by simp)
    replace hf := it_neg h0 hf
    by_cases h1 : x2 = 1
    · replace hf := it_pos h1 hf
      refine a_tin (pc := 6) (tgt := 42) (k := 1) F dX11_thing_6 (by rw [h1]; decide) (by decide) (by decide) rfl (by decide) ?_
      refine a_aloadn (pc := 42) (j := 0) F dX11_thing_42 rfl rfl ?_
      refine a_get (pc := 43) (kb := 0) (j := 0) (f := 7) F iW_X11 rfl rfl rfl (by decide) (tl q2_63) (fun _ h => h) rfl dX11_thing_43 ?_
      refine a_get (pc := 46) (kb := 1) (j := 0) (f := 16) F iW_X3 rfl rfl rfl (by decide) (tl q1_111) (fun _ h => h) rfl dX11_thing_46 ?_
      refine a_iloadn (pc := 49) (j := 1) F dX11_thing_49 rfl rfl ?_
      obtain ⟨h3, hf⟩ := gd_some hf
      refine a_iald (pc := 50) (kb := 1) (j := 8) F rfl rfl h3 dX11_thing_50 ?_
      exact absurd hf (by simp)
    replace hf := it_neg h1 hf
    by_cases h2 : x2 = 2
    · replace hf := it_pos h2 hf
      refine a_tin (pc := 6) (tgt := 52) (k := 2) F dX11_thing_6 (by rw [h2]; decide) (by decide) (by decide) rfl (by decide) ?_
      refine a_aloadn (pc := 52) (j := 0) F dX11_thing_52 rfl rfl ?_
      refine a_get (pc := 53) (kb := 0) (j := 0) (f := 7) F iW_X11 rfl rfl rfl (by decide) (tl q2_63) (fun _ h => h) rfl dX11_thing_53 ?_
      refine a_get (pc := 56) (kb := 1) (j := 0) (f := 17) F iW_X3 rfl rfl rfl (by decide) (tl q1_114) (fun _ h => h) rfl dX11_thing_56 ?_
      refine a_iloadn (pc := 59) (j := 1) F dX11_thing_59 rfl rfl ?_
      obtain ⟨h4, hf⟩ := gd_some hf
      refine a_iald (pc := 60) (kb := 1) (j := 9) F rfl rfl h4 dX11_thing_60 ?_
      exact absurd hf (by simp)
    replace hf := it_neg h2 hf
    refine a_tout (pc := 6) (tgt := 62) F dX11_thing_6 (by have := sw_ne 0 h0 (by decide); have := sw_ne 1 h1 (by decide); have := sw_ne 2 h2 (by decide); omega) (by decide) ?_
    obtain rfl := Sum.inr.inj (Option.some.inj hf)
    exact hthr 62 190 192 _ _ xw_3 dX11_thing_62 dX11_thing_65 dX11_thing_66 dX11_thing_69 (Nat.le_of_ble_eq_true rfl) (Nat.le_of_ble_eq_true rfl) (Nat.le_of_ble_eq_true rfl) (Nat.le_of_ble_eq_true rfl)
  · replace hf := sm_inr hf
    obtain rfl := Sum.inr.inj (Option.some.inj hf)
    exact a_callVx (pc := 2) (bs' := [bX11 y a0 z0_tape z0_tokens z0_hillReader z0_lawReader (a1 0) z0_rules z0_diary z0_spare z0_draft z0_spareDiary z0_guess z0_past z0_imageHill z0_imageRules z0_imageDiary v0, bX3 y a1 v1]) (kb := 0) (j := 0) F [0, 1] (x_X11_checkThing l hlt D y ek n a0 a1 z0_tape z0_tokens z0_hillReader z0_lawReader z0_rules z0_diary z0_spare z0_draft z0_spareDiary z0_guess z0_past z0_imageHill z0_imageRules z0_imageDiary _ _ _ _ ht1a) (cwV 1 F.1.2.2.2.2 (gV q4_221 q4_223 qs_19 q1_1 q4_224) rfl rfl rfl (by decide +kernel) ⟨Nat.le_of_ble_eq_true rfl, Nat.le_of_ble_eq_true rfl⟩) rfl rfl rfl rfl (by decide) rfl rfl rfl rfl rfl rfl (Nat.le_of_ble_eq_true rfl) ⟨Nat.le_of_ble_eq_true rfl, Nat.le_of_ble_eq_true rfl⟩ dX11_thing_2 (fun H1 locs1 ls q9 ce h1 h2 h3 h4 h5 h6 h7 => hout H1 locs1 ls _ _ _ _ q9 ce h1 h2 h3 (Nat.le_of_ble_eq_true rfl) (Nat.le_of_ble_eq_true rfl) h5 h6 h7)

abbrev wX11_carry : List Cond := Cond.code yX11_carry cX11_carry 4 (some .int) :: WALL
def m_X11_carry (n : Nat) (v0 : St) (v1 : St) (v2 : St) (v3 : St) (v4 : Nat → St) (v5 : Nat → St) (x1 : Int32) (x2 : Int32) : Option ((Int32 × St × St × St × (Nat → St) × (Nat → St)) ⊕ (Nat × St × St × St × (Nat → St) × (Nat → St))) :=
bd (m_X11_checkThing n v0 v1 x1) (fun t1 => sm t1 (fun t1a =>
bd (m_X11_checkHouse n v0 v1 x2) (fun t2 => sm t2 (fun t2a =>
(if ix x1 10 then nm (v1 17 (x1).toNatClampNeg) (fun x3_4 =>
(if x3_4 = (-1) then
some (Sum.inr (4, v1, v2, v3, v4, v5))
else
bd (m_X8_remember n v3 v4 v5 v1 v2) (fun t5 =>
bd (m_X1_addRow n v2 (v1 7 0) x1 x3_4 x2) (fun t6 =>
(if ix x1 10 then nm (su v1 17 (x1).toNatClampNeg x2) (fun u8 =>
bd (m_X3_weigh n u8) (fun t9 =>
some (Sum.inl (x3_4, t9, t6, t5.1, t5.2.1, t5.2.2)))) else none))))) else none)) (fun t2x => some (Sum.inr (t2x, v1, v2, v3, v4, v5))))) (fun t1x => some (Sum.inr (t1x, v1, v2, v3, v4, v5))))
set_option maxHeartbeats 4000000 in
set_option maxRecDepth 100000 in
theorem c_X11_carry (l : Launch) (D : va_G) (y : Nat → ClassId) (ek : EK) (n : Nat) (a0 : Nat → Nat) (a1 : Nat → Nat) (a2 : Nat → Nat) (a3 : Nat → Nat) (a4 : Nat → Nat → Nat) (a5 : Nat → Nat → Nat) (z0_tape : Nat) (z0_tokens : Nat) (z0_hillReader : Nat) (z0_lawReader : Nat) (z0_rules : Nat) (z0_spare : Nat) (z0_draft : Nat) (z0_spareDiary : Nat) (z0_guess : Nat) (z0_imageHill : Nat) (z0_imageRules : Nat) (z0_imageDiary : Nat) (v0 : St) (v1 : St) (v2 : St) (v3 : St) (v4 : Nat → St) (v5 : Nat → St) (x1 : Int32) (x2 : Int32) (res : Int32 × St × St × St × (Nat → St) × (Nat → St)) (hf : m_X11_carry n v0 v1 v2 v3 v4 v5 x1 x2 = some (Sum.inl res)) : CI l yX11_carry wX11_carry { frames := 7, cells := 0, slots := 0, locals := 113 } D y ek [.ref (a0 0), .int x1, .int x2] [bX11 y a0 z0_tape z0_tokens z0_hillReader z0_lawReader (a1 0) z0_rules (a2 0) z0_spare z0_draft z0_spareDiary z0_guess (a3 0) z0_imageHill z0_imageRules z0_imageDiary v0, bX3 y a1 v1, bX1 y a2 v2, bX8 y a3 a4 a5 v3, bPH y a4 v4, bPD y a5 v5] (res.1) [bX11 y a0 z0_tape z0_tokens z0_hillReader z0_lawReader (a1 0) z0_rules (a2 0) z0_spare z0_draft z0_spareDiary z0_guess (a3 0) z0_imageHill z0_imageRules z0_imageDiary v0, bX3 y a1 res.2.1, bX1 y a2 res.2.2.1, bX8 y a3 a4 a5 res.2.2.2.1, bPH y a4 res.2.2.2.2.1, bPD y a5 res.2.2.2.2.2] 0 0 := by
  unfold m_X11_carry at hf
  refine ci_of (cc := cX11_carry) (maxL := 4) (by decide) rfl rfl (Nat.le_of_ble_eq_true rfl) ?_
  intro p e s m below meth c Q A F hret
  refine a_lv (lv' := [(0, .ref (a0 0)), (1, .int x1), (2, .int x2)]) rfl ?_
  refine a_aloadn (pc := 0) (j := 0) F dX11_carry_0 rfl rfl ?_
  refine a_iloadn (pc := 1) (j := 1) F dX11_carry_1 rfl rfl ?_
  obtain ⟨t1, ht1a, hf⟩ := bd_some hf
  rcases t1 with t1a | t1x
  · replace hf := sm_inl hf
    refine a_callVv (pc := 2) (bs' := [bX11 y a0 z0_tape z0_tokens z0_hillReader z0_lawReader (a1 0) z0_rules (a2 0) z0_spare z0_draft z0_spareDiary z0_guess (a3 0) z0_imageHill z0_imageRules z0_imageDiary v0, bX3 y a1 v1, bX1 y a2 v2, bX8 y a3 a4 a5 v3, bPH y a4 v4, bPD y a5 v5]) (kb := 0) (j := 0) F [0, 1] (c_X11_checkThing l D y ek n a0 a1 z0_tape z0_tokens z0_hillReader z0_lawReader z0_rules (a2 0) z0_spare z0_draft z0_spareDiary z0_guess (a3 0) z0_imageHill z0_imageRules z0_imageDiary _ _ _ _ ht1a) (cwV 1 F.1.2.2.2.2 (gV q4_221 q4_223 qs_19 q1_1 q4_224) rfl rfl rfl (by decide +kernel) ⟨Nat.le_of_ble_eq_true rfl, Nat.le_of_ble_eq_true rfl⟩) rfl rfl rfl rfl (by decide) rfl rfl rfl rfl rfl rfl (Nat.le_of_ble_eq_true rfl) ⟨Nat.zero_le _, Nat.zero_le _⟩ dX11_carry_2 ?_
    refine a_aloadn (pc := 5) (j := 0) F dX11_carry_5 rfl rfl ?_
    refine a_iloadn (pc := 6) (j := 2) F dX11_carry_6 rfl rfl ?_
    obtain ⟨t2, ht2a, hf⟩ := bd_some hf
    rcases t2 with t2a | t2x
    · replace hf := sm_inl hf
      refine a_callVv (pc := 7) (bs' := [bX11 y a0 z0_tape z0_tokens z0_hillReader z0_lawReader (a1 0) z0_rules (a2 0) z0_spare z0_draft z0_spareDiary z0_guess (a3 0) z0_imageHill z0_imageRules z0_imageDiary v0, bX3 y a1 v1, bX1 y a2 v2, bX8 y a3 a4 a5 v3, bPH y a4 v4, bPD y a5 v5]) (kb := 0) (j := 0) F [0, 1] (c_X11_checkHouse l D y ek n a0 a1 z0_tape z0_tokens z0_hillReader z0_lawReader z0_rules (a2 0) z0_spare z0_draft z0_spareDiary z0_guess (a3 0) z0_imageHill z0_imageRules z0_imageDiary _ _ _ _ ht2a) (cwV 1 F.1.2.2.2.2 (gV q4_199 q4_201 qs_18 q1_1 q4_202) rfl rfl rfl (by decide +kernel) ⟨Nat.le_of_ble_eq_true rfl, Nat.le_of_ble_eq_true rfl⟩) rfl rfl rfl rfl (by decide) rfl rfl rfl rfl rfl rfl (Nat.le_of_ble_eq_true rfl) ⟨Nat.zero_le _, Nat.zero_le _⟩ dX11_carry_7 ?_
      refine a_aloadn (pc := 10) (j := 0) F dX11_carry_10 rfl rfl ?_
      refine a_get (pc := 11) (kb := 0) (j := 0) (f := 7) F iW_X11 rfl rfl rfl (by decide) (tl q2_63) (fun _ h => h) rfl dX11_carry_11 ?_
      refine a_get (pc := 14) (kb := 1) (j := 0) (f := 17) F iW_X3 rfl rfl rfl (by decide) (tl q1_114) (fun _ h => h) rfl dX11_carry_14 ?_
      refine a_iloadn (pc := 17) (j := 1) F dX11_carry_17 rfl rfl ?_
      obtain ⟨h3, hf⟩ := gd_some hf
      refine a_iald (pc := 18) (kb := 1) (j := 9) F rfl rfl h3 dX11_carry_18 ?_
      obtain ⟨x3_4, ex3_4, hf⟩ := nm_some hf
      refine a_nmi ex3_4 ?_
      refine a_istoren (pc := 19) (lv' := [(0, .ref (a0 0)), (1, .int x1), (2, .int x2), (3, .int x3_4)]) F [1, 2, 3, 0] dX11_carry_19 rfl (by decide) rfl ?_
      refine a_iloadn (pc := 20) (j := 3) F dX11_carry_20 rfl rfl ?_
      refine a_iconst (pc := 21) F dX11_carry_21 kc_m1 ?_
      refine a_icmp_ne (pc := 22) (tgt := 33) F dX11_carry_22 (by decide) (fun h => ?_) (fun h => ?_)
      · replace hf := it_neg h hf
        refine a_aloadn (pc := 33) (j := 0) F dX11_carry_33 rfl rfl ?_
        refine a_get (pc := 34) (kb := 0) (j := 0) (f := 14) F iW_X11 rfl rfl rfl (by decide) (tl q2_70) (fun _ h => h) rfl dX11_carry_34 ?_
        refine a_aloadn (pc := 37) (j := 0) F dX11_carry_37 rfl rfl ?_
        refine a_get (pc := 38) (kb := 0) (j := 0) (f := 7) F iW_X11 rfl rfl rfl (by decide) (tl q2_63) (fun _ h => h) rfl dX11_carry_38 ?_
        refine a_aloadn (pc := 41) (j := 0) F dX11_carry_41 rfl rfl ?_
        refine a_get (pc := 42) (kb := 0) (j := 0) (f := 9) F iW_X11 rfl rfl rfl (by decide) (tl q2_65) (fun _ h => h) rfl dX11_carry_42 ?_
        obtain ⟨t5, ht5, hf⟩ := bd_some hf
        refine a_callVv (pc := 45) (bs' := [bX11 y a0 z0_tape z0_tokens z0_hillReader z0_lawReader (a1 0) z0_rules (a2 0) z0_spare z0_draft z0_spareDiary z0_guess (a3 0) z0_imageHill z0_imageRules z0_imageDiary v0, bX3 y a1 v1, bX1 y a2 v2, bX8 y a3 a4 a5 t5.1, bPH y a4 t5.2.1, bPD y a5 t5.2.2]) (kb := 3) (j := 0) F [3, 4, 5, 1, 2] (c_X8_remember l D y ek n a3 a4 a5 a1 a2 _ _ _ _ _ _ ht5) (cwV 2 F.1.2.2.2.2 (gV q2_137 q2_138 q2_139 q1_10 q2_140) rfl rfl rfl (by decide +kernel) ⟨Nat.le_of_ble_eq_true rfl, Nat.le_of_ble_eq_true rfl⟩) rfl rfl rfl rfl (by decide) rfl rfl rfl rfl rfl rfl (Nat.le_of_ble_eq_true rfl) ⟨Nat.zero_le _, Nat.zero_le _⟩ dX11_carry_45 ?_
        refine a_aloadn (pc := 48) (j := 0) F dX11_carry_48 rfl rfl ?_
        refine a_get (pc := 49) (kb := 0) (j := 0) (f := 9) F iW_X11 rfl rfl rfl (by decide) (tl q2_65) (fun _ h => h) rfl dX11_carry_49 ?_
        refine a_aloadn (pc := 52) (j := 0) F dX11_carry_52 rfl rfl ?_
        refine a_get (pc := 53) (kb := 0) (j := 0) (f := 7) F iW_X11 rfl rfl rfl (by decide) (tl q2_63) (fun _ h => h) rfl dX11_carry_53 ?_
        refine a_get (pc := 56) (kb := 1) (j := 0) (f := 7) F iW_X3 rfl rfl rfl (by decide) (tl q1_90) (fun _ h => h) rfl dX11_carry_56 ?_
        refine a_iloadn (pc := 59) (j := 1) F dX11_carry_59 rfl rfl ?_
        refine a_iloadn (pc := 60) (j := 3) F dX11_carry_60 rfl rfl ?_
        refine a_iloadn (pc := 61) (j := 2) F dX11_carry_61 rfl rfl ?_
        obtain ⟨t6, ht6, hf⟩ := bd_some hf
        refine a_callVv (pc := 62) (bs' := [bX11 y a0 z0_tape z0_tokens z0_hillReader z0_lawReader (a1 0) z0_rules (a2 0) z0_spare z0_draft z0_spareDiary z0_guess (a3 0) z0_imageHill z0_imageRules z0_imageDiary v0, bX3 y a1 v1, bX1 y a2 t6, bX8 y a3 a4 a5 t5.1, bPH y a4 t5.2.1, bPD y a5 t5.2.2]) (kb := 2) (j := 0) F [2] (c_X1_addRow l D y ek n a2 _ _ _ _ _ _ ht6) (cwV 4 F.1.2.2.2.2 (gV q5_8 q5_9 q5_10 q1_5 q5_11) rfl rfl rfl (by decide +kernel) ⟨Nat.le_of_ble_eq_true rfl, Nat.le_of_ble_eq_true rfl⟩) rfl rfl rfl rfl (by decide) rfl rfl rfl rfl rfl rfl (Nat.le_of_ble_eq_true rfl) ⟨Nat.zero_le _, Nat.zero_le _⟩ dX11_carry_62 ?_
        refine a_aloadn (pc := 65) (j := 0) F dX11_carry_65 rfl rfl ?_
        refine a_get (pc := 66) (kb := 0) (j := 0) (f := 7) F iW_X11 rfl rfl rfl (by decide) (tl q2_63) (fun _ h => h) rfl dX11_carry_66 ?_
        refine a_get (pc := 69) (kb := 1) (j := 0) (f := 17) F iW_X3 rfl rfl rfl (by decide) (tl q1_114) (fun _ h => h) rfl dX11_carry_69 ?_
        refine a_iloadn (pc := 72) (j := 1) F dX11_carry_72 rfl rfl ?_
        refine a_iloadn (pc := 73) (j := 2) F dX11_carry_73 rfl rfl ?_
        obtain ⟨h7, hf⟩ := gd_some hf
        obtain ⟨u8, eu8, hf⟩ := nm_some hf
        refine a_iast (pc := 74) (kb := 1) (j := 9) (bs' := [bX11 y a0 z0_tape z0_tokens z0_hillReader z0_lawReader (a1 0) z0_rules (a2 0) z0_spare z0_draft z0_spareDiary z0_guess (a3 0) z0_imageHill z0_imageRules z0_imageDiary v0, bX3 y a1 u8, bX1 y a2 t6, bX8 y a3 a4 a5 t5.1, bPH y a4 t5.2.1, bPD y a5 t5.2.2]) F rfl rfl h7 (by rw [eu8]; rfl) dX11_carry_74 ?_
        refine a_aloadn (pc := 75) (j := 0) F dX11_carry_75 rfl rfl ?_
        refine a_get (pc := 76) (kb := 0) (j := 0) (f := 7) F iW_X11 rfl rfl rfl (by decide) (tl q2_63) (fun _ h => h) rfl dX11_carry_76 ?_
        obtain ⟨t9, ht9, hf⟩ := bd_some hf
        refine a_callVv (pc := 79) (bs' := [bX11 y a0 z0_tape z0_tokens z0_hillReader z0_lawReader (a1 0) z0_rules (a2 0) z0_spare z0_draft z0_spareDiary z0_guess (a3 0) z0_imageHill z0_imageRules z0_imageDiary v0, bX3 y a1 t9, bX1 y a2 t6, bX8 y a3 a4 a5 t5.1, bPH y a4 t5.2.1, bPD y a5 t5.2.2]) (kb := 1) (j := 0) F [1] (c_X3_weigh l D y ek n a1 _ _ ht9) (cwV 0 F.1.2.2.2.2 (gV q2_153 q2_154 q2_155 q1_3 q2_156) rfl rfl rfl (by decide +kernel) ⟨Nat.le_of_ble_eq_true rfl, Nat.le_of_ble_eq_true rfl⟩) rfl rfl rfl rfl (by decide) rfl rfl rfl rfl rfl rfl (Nat.le_of_ble_eq_true rfl) ⟨Nat.zero_le _, Nat.zero_le _⟩ dX11_carry_79 ?_
        refine a_iloadn (pc := 82) (j := 3) F dX11_carry_82 rfl rfl ?_
        obtain rfl := Sum.inl.inj (Option.some.inj hf)
        exact hret _ _ _ _ (Nat.zero_le _) (Nat.zero_le _) rfl dX11_carry_83
      · replace hf := it_pos h hf
        exact absurd hf (by simp)
    · replace hf := sm_inr hf
      exact absurd hf (by simp)
  · replace hf := sm_inr hf
    exact absurd hf (by simp)
set_option maxHeartbeats 4000000 in
set_option maxRecDepth 100000 in
theorem x_X11_carry (l : Launch) (hlt : l.stackTraces = false) (D : va_G) (y : Nat → ClassId) (ek : EK) (n : Nat) (a0 : Nat → Nat) (a1 : Nat → Nat) (a2 : Nat → Nat) (a3 : Nat → Nat) (a4 : Nat → Nat → Nat) (a5 : Nat → Nat → Nat) (z0_tape : Nat) (z0_tokens : Nat) (z0_hillReader : Nat) (z0_lawReader : Nat) (z0_rules : Nat) (z0_spare : Nat) (z0_draft : Nat) (z0_spareDiary : Nat) (z0_guess : Nat) (z0_imageHill : Nat) (z0_imageRules : Nat) (z0_imageDiary : Nat) (v0 : St) (v1 : St) (v2 : St) (v3 : St) (v4 : Nat → St) (v5 : Nat → St) (x1 : Int32) (x2 : Int32) (res : Nat × St × St × St × (Nat → St) × (Nat → St)) (hf : m_X11_carry n v0 v1 v2 v3 v4 v5 x1 x2 = some (Sum.inr res)) : CX l yX11_carry wX11_carry { frames := 7, cells := 1, slots := 6, locals := 113 } D y ek [.ref (a0 0), .int x1, .int x2] [bX11 y a0 z0_tape z0_tokens z0_hillReader z0_lawReader (a1 0) z0_rules (a2 0) z0_spare z0_draft z0_spareDiary z0_guess (a3 0) z0_imageHill z0_imageRules z0_imageDiary v0, bX3 y a1 v1, bX1 y a2 v2, bX8 y a3 a4 a5 v3, bPH y a4 v4, bPD y a5 v5] (eX.getD res.1 "") [bX11 y a0 z0_tape z0_tokens z0_hillReader z0_lawReader (a1 0) z0_rules (a2 0) z0_spare z0_draft z0_spareDiary z0_guess (a3 0) z0_imageHill z0_imageRules z0_imageDiary v0, bX3 y a1 res.2.1, bX1 y a2 res.2.2.1, bX8 y a3 a4 a5 res.2.2.2.1, bPH y a4 res.2.2.2.2.1, bPD y a5 res.2.2.2.2.2] 1 6 := by
  unfold m_X11_carry at hf
  refine cx_of (cc := cX11_carry) (maxL := 4) hlt (by decide) rfl (Nat.le_of_ble_eq_true rfl) (Nat.le_refl 1) (Nat.le_refl 6) ?_
  intro p e s m below meth c Q A F hthr hout
  refine a_lv (lv' := [(0, .ref (a0 0)), (1, .int x1), (2, .int x2)]) rfl ?_
  refine a_aloadn (pc := 0) (j := 0) F dX11_carry_0 rfl rfl ?_
  refine a_iloadn (pc := 1) (j := 1) F dX11_carry_1 rfl rfl ?_
  obtain ⟨t1, ht1a, hf⟩ := bd_some hf
  rcases t1 with t1a | t1x
  · replace hf := sm_inl hf
    refine a_callVv (pc := 2) (bs' := [bX11 y a0 z0_tape z0_tokens z0_hillReader z0_lawReader (a1 0) z0_rules (a2 0) z0_spare z0_draft z0_spareDiary z0_guess (a3 0) z0_imageHill z0_imageRules z0_imageDiary v0, bX3 y a1 v1, bX1 y a2 v2, bX8 y a3 a4 a5 v3, bPH y a4 v4, bPD y a5 v5]) (kb := 0) (j := 0) F [0, 1] (c_X11_checkThing l D y ek n a0 a1 z0_tape z0_tokens z0_hillReader z0_lawReader z0_rules (a2 0) z0_spare z0_draft z0_spareDiary z0_guess (a3 0) z0_imageHill z0_imageRules z0_imageDiary _ _ _ _ ht1a) (cwV 1 F.1.2.2.2.2 (gV q4_221 q4_223 qs_19 q1_1 q4_224) rfl rfl rfl (by decide +kernel) ⟨Nat.le_of_ble_eq_true rfl, Nat.le_of_ble_eq_true rfl⟩) rfl rfl rfl rfl (by decide) rfl rfl rfl rfl rfl rfl (Nat.le_of_ble_eq_true rfl) ⟨Nat.zero_le _, Nat.zero_le _⟩ dX11_carry_2 ?_
    refine a_aloadn (pc := 5) (j := 0) F dX11_carry_5 rfl rfl ?_
    refine a_iloadn (pc := 6) (j := 2) F dX11_carry_6 rfl rfl ?_
    obtain ⟨t2, ht2a, hf⟩ := bd_some hf
    rcases t2 with t2a | t2x
    · replace hf := sm_inl hf
      refine a_callVv (pc := 7) (bs' := [bX11 y a0 z0_tape z0_tokens z0_hillReader z0_lawReader (a1 0) z0_rules (a2 0) z0_spare z0_draft z0_spareDiary z0_guess (a3 0) z0_imageHill z0_imageRules z0_imageDiary v0, bX3 y a1 v1, bX1 y a2 v2, bX8 y a3 a4 a5 v3, bPH y a4 v4, bPD y a5 v5]) (kb := 0) (j := 0) F [0, 1] (c_X11_checkHouse l D y ek n a0 a1 z0_tape z0_tokens z0_hillReader z0_lawReader z0_rules (a2 0) z0_spare z0_draft z0_spareDiary z0_guess (a3 0) z0_imageHill z0_imageRules z0_imageDiary _ _ _ _ ht2a) (cwV 1 F.1.2.2.2.2 (gV q4_199 q4_201 qs_18 q1_1 q4_202) rfl rfl rfl (by decide +kernel) ⟨Nat.le_of_ble_eq_true rfl, Nat.le_of_ble_eq_true rfl⟩) rfl rfl rfl rfl (by decide) rfl rfl rfl rfl rfl rfl (Nat.le_of_ble_eq_true rfl) ⟨Nat.zero_le _, Nat.zero_le _⟩ dX11_carry_7 ?_
      refine a_aloadn (pc := 10) (j := 0) F dX11_carry_10 rfl rfl ?_
      refine a_get (pc := 11) (kb := 0) (j := 0) (f := 7) F iW_X11 rfl rfl rfl (by decide) (tl q2_63) (fun _ h => h) rfl dX11_carry_11 ?_
      refine a_get (pc := 14) (kb := 1) (j := 0) (f := 17) F iW_X3 rfl rfl rfl (by decide) (tl q1_114) (fun _ h => h) rfl dX11_carry_14 ?_
      refine a_iloadn (pc := 17) (j := 1) F dX11_carry_17 rfl rfl ?_
      obtain ⟨h3, hf⟩ := gd_some hf
      refine a_iald (pc := 18) (kb := 1) (j := 9) F rfl rfl h3 dX11_carry_18 ?_
      obtain ⟨x3_4, ex3_4, hf⟩ := nm_some hf
      refine a_nmi ex3_4 ?_
      refine a_istoren (pc := 19) (lv' := [(0, .ref (a0 0)), (1, .int x1), (2, .int x2), (3, .int x3_4)]) F [1, 2, 3, 0] dX11_carry_19 rfl (by decide) rfl ?_
      refine a_iloadn (pc := 20) (j := 3) F dX11_carry_20 rfl rfl ?_
      refine a_iconst (pc := 21) F dX11_carry_21 kc_m1 ?_
      refine a_icmp_ne (pc := 22) (tgt := 33) F dX11_carry_22 (by decide) (fun h => ?_) (fun h => ?_)
      · replace hf := it_neg h hf
        refine a_aloadn (pc := 33) (j := 0) F dX11_carry_33 rfl rfl ?_
        refine a_get (pc := 34) (kb := 0) (j := 0) (f := 14) F iW_X11 rfl rfl rfl (by decide) (tl q2_70) (fun _ h => h) rfl dX11_carry_34 ?_
        refine a_aloadn (pc := 37) (j := 0) F dX11_carry_37 rfl rfl ?_
        refine a_get (pc := 38) (kb := 0) (j := 0) (f := 7) F iW_X11 rfl rfl rfl (by decide) (tl q2_63) (fun _ h => h) rfl dX11_carry_38 ?_
        refine a_aloadn (pc := 41) (j := 0) F dX11_carry_41 rfl rfl ?_
        refine a_get (pc := 42) (kb := 0) (j := 0) (f := 9) F iW_X11 rfl rfl rfl (by decide) (tl q2_65) (fun _ h => h) rfl dX11_carry_42 ?_
        obtain ⟨t5, ht5, hf⟩ := bd_some hf
        refine a_callVv (pc := 45) (bs' := [bX11 y a0 z0_tape z0_tokens z0_hillReader z0_lawReader (a1 0) z0_rules (a2 0) z0_spare z0_draft z0_spareDiary z0_guess (a3 0) z0_imageHill z0_imageRules z0_imageDiary v0, bX3 y a1 v1, bX1 y a2 v2, bX8 y a3 a4 a5 t5.1, bPH y a4 t5.2.1, bPD y a5 t5.2.2]) (kb := 3) (j := 0) F [3, 4, 5, 1, 2] (c_X8_remember l D y ek n a3 a4 a5 a1 a2 _ _ _ _ _ _ ht5) (cwV 2 F.1.2.2.2.2 (gV q2_137 q2_138 q2_139 q1_10 q2_140) rfl rfl rfl (by decide +kernel) ⟨Nat.le_of_ble_eq_true rfl, Nat.le_of_ble_eq_true rfl⟩) rfl rfl rfl rfl (by decide) rfl rfl rfl rfl rfl rfl (Nat.le_of_ble_eq_true rfl) ⟨Nat.zero_le _, Nat.zero_le _⟩ dX11_carry_45 ?_
        refine a_aloadn (pc := 48) (j := 0) F dX11_carry_48 rfl rfl ?_
        refine a_get (pc := 49) (kb := 0) (j := 0) (f := 9) F iW_X11 rfl rfl rfl (by decide) (tl q2_65) (fun _ h => h) rfl dX11_carry_49 ?_
        refine a_aloadn (pc := 52) (j := 0) F dX11_carry_52 rfl rfl ?_
        refine a_get (pc := 53) (kb := 0) (j := 0) (f := 7) F iW_X11 rfl rfl rfl (by decide) (tl q2_63) (fun _ h => h) rfl dX11_carry_53 ?_
        refine a_get (pc := 56) (kb := 1) (j := 0) (f := 7) F iW_X3 rfl rfl rfl (by decide) (tl q1_90) (fun _ h => h) rfl dX11_carry_56 ?_
        refine a_iloadn (pc := 59) (j := 1) F dX11_carry_59 rfl rfl ?_
        refine a_iloadn (pc := 60) (j := 3) F dX11_carry_60 rfl rfl ?_
        refine a_iloadn (pc := 61) (j := 2) F dX11_carry_61 rfl rfl ?_
        obtain ⟨t6, ht6, hf⟩ := bd_some hf
        refine a_callVv (pc := 62) (bs' := [bX11 y a0 z0_tape z0_tokens z0_hillReader z0_lawReader (a1 0) z0_rules (a2 0) z0_spare z0_draft z0_spareDiary z0_guess (a3 0) z0_imageHill z0_imageRules z0_imageDiary v0, bX3 y a1 v1, bX1 y a2 t6, bX8 y a3 a4 a5 t5.1, bPH y a4 t5.2.1, bPD y a5 t5.2.2]) (kb := 2) (j := 0) F [2] (c_X1_addRow l D y ek n a2 _ _ _ _ _ _ ht6) (cwV 4 F.1.2.2.2.2 (gV q5_8 q5_9 q5_10 q1_5 q5_11) rfl rfl rfl (by decide +kernel) ⟨Nat.le_of_ble_eq_true rfl, Nat.le_of_ble_eq_true rfl⟩) rfl rfl rfl rfl (by decide) rfl rfl rfl rfl rfl rfl (Nat.le_of_ble_eq_true rfl) ⟨Nat.zero_le _, Nat.zero_le _⟩ dX11_carry_62 ?_
        refine a_aloadn (pc := 65) (j := 0) F dX11_carry_65 rfl rfl ?_
        refine a_get (pc := 66) (kb := 0) (j := 0) (f := 7) F iW_X11 rfl rfl rfl (by decide) (tl q2_63) (fun _ h => h) rfl dX11_carry_66 ?_
        refine a_get (pc := 69) (kb := 1) (j := 0) (f := 17) F iW_X3 rfl rfl rfl (by decide) (tl q1_114) (fun _ h => h) rfl dX11_carry_69 ?_
        refine a_iloadn (pc := 72) (j := 1) F dX11_carry_72 rfl rfl ?_
        refine a_iloadn (pc := 73) (j := 2) F dX11_carry_73 rfl rfl ?_
        obtain ⟨h7, hf⟩ := gd_some hf
        obtain ⟨u8, eu8, hf⟩ := nm_some hf
        refine a_iast (pc := 74) (kb := 1) (j := 9) (bs' := [bX11 y a0 z0_tape z0_tokens z0_hillReader z0_lawReader (a1 0) z0_rules (a2 0) z0_spare z0_draft z0_spareDiary z0_guess (a3 0) z0_imageHill z0_imageRules z0_imageDiary v0, bX3 y a1 u8, bX1 y a2 t6, bX8 y a3 a4 a5 t5.1, bPH y a4 t5.2.1, bPD y a5 t5.2.2]) F rfl rfl h7 (by rw [eu8]; rfl) dX11_carry_74 ?_
        refine a_aloadn (pc := 75) (j := 0) F dX11_carry_75 rfl rfl ?_
        refine a_get (pc := 76) (kb := 0) (j := 0) (f := 7) F iW_X11 rfl rfl rfl (by decide) (tl q2_63) (fun _ h => h) rfl dX11_carry_76 ?_
        obtain ⟨t9, ht9, hf⟩ := bd_some hf
        refine a_callVv (pc := 79) (bs' := [bX11 y a0 z0_tape z0_tokens z0_hillReader z0_lawReader (a1 0) z0_rules (a2 0) z0_spare z0_draft z0_spareDiary z0_guess (a3 0) z0_imageHill z0_imageRules z0_imageDiary v0, bX3 y a1 t9, bX1 y a2 t6, bX8 y a3 a4 a5 t5.1, bPH y a4 t5.2.1, bPD y a5 t5.2.2]) (kb := 1) (j := 0) F [1] (c_X3_weigh l D y ek n a1 _ _ ht9) (cwV 0 F.1.2.2.2.2 (gV q2_153 q2_154 q2_155 q1_3 q2_156) rfl rfl rfl (by decide +kernel) ⟨Nat.le_of_ble_eq_true rfl, Nat.le_of_ble_eq_true rfl⟩) rfl rfl rfl rfl (by decide) rfl rfl rfl rfl rfl rfl (Nat.le_of_ble_eq_true rfl) ⟨Nat.zero_le _, Nat.zero_le _⟩ dX11_carry_79 ?_
        refine a_iloadn (pc := 82) (j := 3) F dX11_carry_82 rfl rfl ?_
        exact absurd hf (by simp)
      · replace hf := it_pos h hf
        obtain rfl := Sum.inr.inj (Option.some.inj hf)
        exact hthr 25 235 237 _ _ xw_4 dX11_carry_25 dX11_carry_28 dX11_carry_29 dX11_carry_32 (Nat.le_of_ble_eq_true rfl) (Nat.le_of_ble_eq_true rfl) (Nat.le_of_ble_eq_true rfl) (Nat.le_of_ble_eq_true rfl)
    · replace hf := sm_inr hf
      obtain rfl := Sum.inr.inj (Option.some.inj hf)
      exact a_callVx (pc := 7) (bs' := [bX11 y a0 z0_tape z0_tokens z0_hillReader z0_lawReader (a1 0) z0_rules (a2 0) z0_spare z0_draft z0_spareDiary z0_guess (a3 0) z0_imageHill z0_imageRules z0_imageDiary v0, bX3 y a1 v1, bX1 y a2 v2, bX8 y a3 a4 a5 v3, bPH y a4 v4, bPD y a5 v5]) (kb := 0) (j := 0) F [0, 1] (x_X11_checkHouse l hlt D y ek n a0 a1 z0_tape z0_tokens z0_hillReader z0_lawReader z0_rules (a2 0) z0_spare z0_draft z0_spareDiary z0_guess (a3 0) z0_imageHill z0_imageRules z0_imageDiary _ _ _ _ ht2a) (cwV 1 F.1.2.2.2.2 (gV q4_199 q4_201 qs_18 q1_1 q4_202) rfl rfl rfl (by decide +kernel) ⟨Nat.le_of_ble_eq_true rfl, Nat.le_of_ble_eq_true rfl⟩) rfl rfl rfl rfl (by decide) rfl rfl rfl rfl rfl rfl (Nat.le_of_ble_eq_true rfl) ⟨Nat.le_of_ble_eq_true rfl, Nat.le_of_ble_eq_true rfl⟩ dX11_carry_7 (fun H1 locs1 ls q9 ce h1 h2 h3 h4 h5 h6 h7 => hout H1 locs1 ls _ _ _ _ q9 ce h1 h2 h3 (Nat.le_of_ble_eq_true rfl) (Nat.le_of_ble_eq_true rfl) h5 h6 h7)
  · replace hf := sm_inr hf
    obtain rfl := Sum.inr.inj (Option.some.inj hf)
    exact a_callVx (pc := 2) (bs' := [bX11 y a0 z0_tape z0_tokens z0_hillReader z0_lawReader (a1 0) z0_rules (a2 0) z0_spare z0_draft z0_spareDiary z0_guess (a3 0) z0_imageHill z0_imageRules z0_imageDiary v0, bX3 y a1 v1, bX1 y a2 v2, bX8 y a3 a4 a5 v3, bPH y a4 v4, bPD y a5 v5]) (kb := 0) (j := 0) F [0, 1] (x_X11_checkThing l hlt D y ek n a0 a1 z0_tape z0_tokens z0_hillReader z0_lawReader z0_rules (a2 0) z0_spare z0_draft z0_spareDiary z0_guess (a3 0) z0_imageHill z0_imageRules z0_imageDiary _ _ _ _ ht1a) (cwV 1 F.1.2.2.2.2 (gV q4_221 q4_223 qs_19 q1_1 q4_224) rfl rfl rfl (by decide +kernel) ⟨Nat.le_of_ble_eq_true rfl, Nat.le_of_ble_eq_true rfl⟩) rfl rfl rfl rfl (by decide) rfl rfl rfl rfl rfl rfl (Nat.le_of_ble_eq_true rfl) ⟨Nat.le_of_ble_eq_true rfl, Nat.le_of_ble_eq_true rfl⟩ dX11_carry_2 (fun H1 locs1 ls q9 ce h1 h2 h3 h4 h5 h6 h7 => hout H1 locs1 ls _ _ _ _ q9 ce h1 h2 h3 (Nat.le_of_ble_eq_true rfl) (Nat.le_of_ble_eq_true rfl) h5 h6 h7)

abbrev wX11_guests : List Cond := Cond.code yX11_guests cX11_guests 4 (some .int) :: WALL
def m_X11_guests (n : Nat) (v0 : St) (v1 : St) (v2 : St) (v3 : St) (v4 : Nat → St) (v5 : Nat → St) (x1 : Int32) (x2 : Int32) : Option ((Int32 × St × St × (Nat → St) × (Nat → St)) ⊕ (Nat × St × St × (Nat → St) × (Nat → St))) :=
bd (m_X11_checkHouse n v0 v1 x1) (fun t1 => sm t1 (fun t1a =>
bd (m_X11_checkNumber n x2 0 9) (fun t2 => sm t2 (fun t2a =>
bd (m_X8_remember n v3 v4 v5 v1 v2) (fun t3 =>
(if ix x1 10 then nm (v1 14 (x1).toNatClampNeg) (fun x3_5 =>
(if ix x1 10 then nm (su v1 14 (x1).toNatClampNeg x2) (fun u7 =>
bd (m_X3_weigh n u7) (fun t8 =>
some (Sum.inl (x3_5, t8, t3.1, t3.2.1, t3.2.2)))) else none)) else none))) (fun t2x => some (Sum.inr (t2x, v1, v3, v4, v5))))) (fun t1x => some (Sum.inr (t1x, v1, v3, v4, v5))))
set_option maxHeartbeats 4000000 in
set_option maxRecDepth 100000 in
theorem c_X11_guests (l : Launch) (D : va_G) (y : Nat → ClassId) (ek : EK) (n : Nat) (a0 : Nat → Nat) (a1 : Nat → Nat) (a2 : Nat → Nat) (a3 : Nat → Nat) (a4 : Nat → Nat → Nat) (a5 : Nat → Nat → Nat) (z0_tape : Nat) (z0_tokens : Nat) (z0_hillReader : Nat) (z0_lawReader : Nat) (z0_rules : Nat) (z0_spare : Nat) (z0_draft : Nat) (z0_spareDiary : Nat) (z0_guess : Nat) (z0_imageHill : Nat) (z0_imageRules : Nat) (z0_imageDiary : Nat) (v0 : St) (v1 : St) (v2 : St) (v3 : St) (v4 : Nat → St) (v5 : Nat → St) (x1 : Int32) (x2 : Int32) (res : Int32 × St × St × (Nat → St) × (Nat → St)) (hf : m_X11_guests n v0 v1 v2 v3 v4 v5 x1 x2 = some (Sum.inl res)) : CI l yX11_guests wX11_guests { frames := 7, cells := 0, slots := 0, locals := 113 } D y ek [.ref (a0 0), .int x1, .int x2] [bX11 y a0 z0_tape z0_tokens z0_hillReader z0_lawReader (a1 0) z0_rules (a2 0) z0_spare z0_draft z0_spareDiary z0_guess (a3 0) z0_imageHill z0_imageRules z0_imageDiary v0, bX3 y a1 v1, bX1 y a2 v2, bX8 y a3 a4 a5 v3, bPH y a4 v4, bPD y a5 v5] (res.1) [bX11 y a0 z0_tape z0_tokens z0_hillReader z0_lawReader (a1 0) z0_rules (a2 0) z0_spare z0_draft z0_spareDiary z0_guess (a3 0) z0_imageHill z0_imageRules z0_imageDiary v0, bX3 y a1 res.2.1, bX1 y a2 v2, bX8 y a3 a4 a5 res.2.2.1, bPH y a4 res.2.2.2.1, bPD y a5 res.2.2.2.2] 0 0 := by
  unfold m_X11_guests at hf
  refine ci_of (cc := cX11_guests) (maxL := 4) (by decide) rfl rfl (Nat.le_of_ble_eq_true rfl) ?_
  intro p e s m below meth c Q A F hret
  refine a_lv (lv' := [(0, .ref (a0 0)), (1, .int x1), (2, .int x2)]) rfl ?_
  refine a_aloadn (pc := 0) (j := 0) F dX11_guests_0 rfl rfl ?_
  refine a_iloadn (pc := 1) (j := 1) F dX11_guests_1 rfl rfl ?_
  obtain ⟨t1, ht1a, hf⟩ := bd_some hf
  rcases t1 with t1a | t1x
  · replace hf := sm_inl hf
    refine a_callVv (pc := 2) (bs' := [bX11 y a0 z0_tape z0_tokens z0_hillReader z0_lawReader (a1 0) z0_rules (a2 0) z0_spare z0_draft z0_spareDiary z0_guess (a3 0) z0_imageHill z0_imageRules z0_imageDiary v0, bX3 y a1 v1, bX1 y a2 v2, bX8 y a3 a4 a5 v3, bPH y a4 v4, bPD y a5 v5]) (kb := 0) (j := 0) F [0, 1] (c_X11_checkHouse l D y ek n a0 a1 z0_tape z0_tokens z0_hillReader z0_lawReader z0_rules (a2 0) z0_spare z0_draft z0_spareDiary z0_guess (a3 0) z0_imageHill z0_imageRules z0_imageDiary _ _ _ _ ht1a) (cwV 1 F.1.2.2.2.2 (gV q4_199 q4_201 qs_18 q1_1 q4_202) rfl rfl rfl (by decide +kernel) ⟨Nat.le_of_ble_eq_true rfl, Nat.le_of_ble_eq_true rfl⟩) rfl rfl rfl rfl (by decide) rfl rfl rfl rfl rfl rfl (Nat.le_of_ble_eq_true rfl) ⟨Nat.zero_le _, Nat.zero_le _⟩ dX11_guests_2 ?_
    refine a_iloadn (pc := 5) (j := 2) F dX11_guests_5 rfl rfl ?_
    refine a_iconst (pc := 6) F dX11_guests_6 kc_0 ?_
    refine a_bipush (pc := 7) F dX11_guests_7 kb_9 ?_
    obtain ⟨t2, ht2a, hf⟩ := bd_some hf
    rcases t2 with t2a | t2x
    · replace hf := sm_inl hf
      refine a_callSv (pc := 9) (bs' := [bX11 y a0 z0_tape z0_tokens z0_hillReader z0_lawReader (a1 0) z0_rules (a2 0) z0_spare z0_draft z0_spareDiary z0_guess (a3 0) z0_imageHill z0_imageRules z0_imageDiary v0, bX3 y a1 v1, bX1 y a2 v2, bX8 y a3 a4 a5 v3, bPH y a4 v4, bPD y a5 v5]) F [] (c_X11_checkNumber l D y ek n  _ _ _ _ ht2a) (va_cwS 3 F.1.2.2.2.2 (gS q5_19 q5_20 q1_1 q5_21) rfl rfl rfl (by decide +kernel) ⟨Nat.le_of_ble_eq_true rfl, Nat.le_of_ble_eq_true rfl⟩) (by decide) rfl rfl rfl rfl rfl rfl (Nat.le_of_ble_eq_true rfl) ⟨Nat.zero_le _, Nat.zero_le _⟩ dX11_guests_9 ?_
      refine a_aloadn (pc := 12) (j := 0) F dX11_guests_12 rfl rfl ?_
      refine a_get (pc := 13) (kb := 0) (j := 0) (f := 14) F iW_X11 rfl rfl rfl (by decide) (tl q2_70) (fun _ h => h) rfl dX11_guests_13 ?_
      refine a_aloadn (pc := 16) (j := 0) F dX11_guests_16 rfl rfl ?_
      refine a_get (pc := 17) (kb := 0) (j := 0) (f := 7) F iW_X11 rfl rfl rfl (by decide) (tl q2_63) (fun _ h => h) rfl dX11_guests_17 ?_
      refine a_aloadn (pc := 20) (j := 0) F dX11_guests_20 rfl rfl ?_
      refine a_get (pc := 21) (kb := 0) (j := 0) (f := 9) F iW_X11 rfl rfl rfl (by decide) (tl q2_65) (fun _ h => h) rfl dX11_guests_21 ?_
      obtain ⟨t3, ht3, hf⟩ := bd_some hf
      refine a_callVv (pc := 24) (bs' := [bX11 y a0 z0_tape z0_tokens z0_hillReader z0_lawReader (a1 0) z0_rules (a2 0) z0_spare z0_draft z0_spareDiary z0_guess (a3 0) z0_imageHill z0_imageRules z0_imageDiary v0, bX3 y a1 v1, bX1 y a2 v2, bX8 y a3 a4 a5 t3.1, bPH y a4 t3.2.1, bPD y a5 t3.2.2]) (kb := 3) (j := 0) F [3, 4, 5, 1, 2] (c_X8_remember l D y ek n a3 a4 a5 a1 a2 _ _ _ _ _ _ ht3) (cwV 2 F.1.2.2.2.2 (gV q2_137 q2_138 q2_139 q1_10 q2_140) rfl rfl rfl (by decide +kernel) ⟨Nat.le_of_ble_eq_true rfl, Nat.le_of_ble_eq_true rfl⟩) rfl rfl rfl rfl (by decide) rfl rfl rfl rfl rfl rfl (Nat.le_of_ble_eq_true rfl) ⟨Nat.zero_le _, Nat.zero_le _⟩ dX11_guests_24 ?_
      refine a_aloadn (pc := 27) (j := 0) F dX11_guests_27 rfl rfl ?_
      refine a_get (pc := 28) (kb := 0) (j := 0) (f := 7) F iW_X11 rfl rfl rfl (by decide) (tl q2_63) (fun _ h => h) rfl dX11_guests_28 ?_
      refine a_get (pc := 31) (kb := 1) (j := 0) (f := 14) F iW_X3 rfl rfl rfl (by decide) (tl q1_106) (fun _ h => h) rfl dX11_guests_31 ?_
      refine a_iloadn (pc := 34) (j := 1) F dX11_guests_34 rfl rfl ?_
      obtain ⟨h4, hf⟩ := gd_some hf
      refine a_iald (pc := 35) (kb := 1) (j := 6) F rfl rfl h4 dX11_guests_35 ?_
      obtain ⟨x3_5, ex3_5, hf⟩ := nm_some hf
      refine a_nmi ex3_5 ?_
      refine a_istoren (pc := 36) (lv' := [(0, .ref (a0 0)), (1, .int x1), (2, .int x2), (3, .int x3_5)]) F [1, 2, 3, 0] dX11_guests_36 rfl (by decide) rfl ?_
      refine a_aloadn (pc := 37) (j := 0) F dX11_guests_37 rfl rfl ?_
      refine a_get (pc := 38) (kb := 0) (j := 0) (f := 7) F iW_X11 rfl rfl rfl (by decide) (tl q2_63) (fun _ h => h) rfl dX11_guests_38 ?_
      refine a_get (pc := 41) (kb := 1) (j := 0) (f := 14) F iW_X3 rfl rfl rfl (by decide) (tl q1_106) (fun _ h => h) rfl dX11_guests_41 ?_
      refine a_iloadn (pc := 44) (j := 1) F dX11_guests_44 rfl rfl ?_
      refine a_iloadn (pc := 45) (j := 2) F dX11_guests_45 rfl rfl ?_
      obtain ⟨h6, hf⟩ := gd_some hf
      obtain ⟨u7, eu7, hf⟩ := nm_some hf
      refine a_iast (pc := 46) (kb := 1) (j := 6) (bs' := [bX11 y a0 z0_tape z0_tokens z0_hillReader z0_lawReader (a1 0) z0_rules (a2 0) z0_spare z0_draft z0_spareDiary z0_guess (a3 0) z0_imageHill z0_imageRules z0_imageDiary v0, bX3 y a1 u7, bX1 y a2 v2, bX8 y a3 a4 a5 t3.1, bPH y a4 t3.2.1, bPD y a5 t3.2.2]) F rfl rfl h6 (by rw [eu7]; rfl) dX11_guests_46 ?_
      refine a_aloadn (pc := 47) (j := 0) F dX11_guests_47 rfl rfl ?_
      refine a_get (pc := 48) (kb := 0) (j := 0) (f := 7) F iW_X11 rfl rfl rfl (by decide) (tl q2_63) (fun _ h => h) rfl dX11_guests_48 ?_
      obtain ⟨t8, ht8, hf⟩ := bd_some hf
      refine a_callVv (pc := 51) (bs' := [bX11 y a0 z0_tape z0_tokens z0_hillReader z0_lawReader (a1 0) z0_rules (a2 0) z0_spare z0_draft z0_spareDiary z0_guess (a3 0) z0_imageHill z0_imageRules z0_imageDiary v0, bX3 y a1 t8, bX1 y a2 v2, bX8 y a3 a4 a5 t3.1, bPH y a4 t3.2.1, bPD y a5 t3.2.2]) (kb := 1) (j := 0) F [1] (c_X3_weigh l D y ek n a1 _ _ ht8) (cwV 0 F.1.2.2.2.2 (gV q2_153 q2_154 q2_155 q1_3 q2_156) rfl rfl rfl (by decide +kernel) ⟨Nat.le_of_ble_eq_true rfl, Nat.le_of_ble_eq_true rfl⟩) rfl rfl rfl rfl (by decide) rfl rfl rfl rfl rfl rfl (Nat.le_of_ble_eq_true rfl) ⟨Nat.zero_le _, Nat.zero_le _⟩ dX11_guests_51 ?_
      refine a_iloadn (pc := 54) (j := 3) F dX11_guests_54 rfl rfl ?_
      obtain rfl := Sum.inl.inj (Option.some.inj hf)
      exact hret _ _ _ _ (Nat.zero_le _) (Nat.zero_le _) rfl dX11_guests_55
    · replace hf := sm_inr hf
      exact absurd hf (by simp)
  · replace hf := sm_inr hf
    exact absurd hf (by simp)
set_option maxHeartbeats 4000000 in
set_option maxRecDepth 100000 in
theorem x_X11_guests (l : Launch) (hlt : l.stackTraces = false) (D : va_G) (y : Nat → ClassId) (ek : EK) (n : Nat) (a0 : Nat → Nat) (a1 : Nat → Nat) (a2 : Nat → Nat) (a3 : Nat → Nat) (a4 : Nat → Nat → Nat) (a5 : Nat → Nat → Nat) (z0_tape : Nat) (z0_tokens : Nat) (z0_hillReader : Nat) (z0_lawReader : Nat) (z0_rules : Nat) (z0_spare : Nat) (z0_draft : Nat) (z0_spareDiary : Nat) (z0_guess : Nat) (z0_imageHill : Nat) (z0_imageRules : Nat) (z0_imageDiary : Nat) (v0 : St) (v1 : St) (v2 : St) (v3 : St) (v4 : Nat → St) (v5 : Nat → St) (x1 : Int32) (x2 : Int32) (res : Nat × St × St × (Nat → St) × (Nat → St)) (hf : m_X11_guests n v0 v1 v2 v3 v4 v5 x1 x2 = some (Sum.inr res)) : CX l yX11_guests wX11_guests { frames := 7, cells := 1, slots := 6, locals := 113 } D y ek [.ref (a0 0), .int x1, .int x2] [bX11 y a0 z0_tape z0_tokens z0_hillReader z0_lawReader (a1 0) z0_rules (a2 0) z0_spare z0_draft z0_spareDiary z0_guess (a3 0) z0_imageHill z0_imageRules z0_imageDiary v0, bX3 y a1 v1, bX1 y a2 v2, bX8 y a3 a4 a5 v3, bPH y a4 v4, bPD y a5 v5] (eX.getD res.1 "") [bX11 y a0 z0_tape z0_tokens z0_hillReader z0_lawReader (a1 0) z0_rules (a2 0) z0_spare z0_draft z0_spareDiary z0_guess (a3 0) z0_imageHill z0_imageRules z0_imageDiary v0, bX3 y a1 res.2.1, bX1 y a2 v2, bX8 y a3 a4 a5 res.2.2.1, bPH y a4 res.2.2.2.1, bPD y a5 res.2.2.2.2] 1 6 := by
  unfold m_X11_guests at hf
  refine cx_of (cc := cX11_guests) (maxL := 4) hlt (by decide) rfl (Nat.le_of_ble_eq_true rfl) (Nat.le_refl 1) (Nat.le_refl 6) ?_
  intro p e s m below meth c Q A F hthr hout
  refine a_lv (lv' := [(0, .ref (a0 0)), (1, .int x1), (2, .int x2)]) rfl ?_
  refine a_aloadn (pc := 0) (j := 0) F dX11_guests_0 rfl rfl ?_
  refine a_iloadn (pc := 1) (j := 1) F dX11_guests_1 rfl rfl ?_
  obtain ⟨t1, ht1a, hf⟩ := bd_some hf
  rcases t1 with t1a | t1x
  · replace hf := sm_inl hf
    refine a_callVv (pc := 2) (bs' := [bX11 y a0 z0_tape z0_tokens z0_hillReader z0_lawReader (a1 0) z0_rules (a2 0) z0_spare z0_draft z0_spareDiary z0_guess (a3 0) z0_imageHill z0_imageRules z0_imageDiary v0, bX3 y a1 v1, bX1 y a2 v2, bX8 y a3 a4 a5 v3, bPH y a4 v4, bPD y a5 v5]) (kb := 0) (j := 0) F [0, 1] (c_X11_checkHouse l D y ek n a0 a1 z0_tape z0_tokens z0_hillReader z0_lawReader z0_rules (a2 0) z0_spare z0_draft z0_spareDiary z0_guess (a3 0) z0_imageHill z0_imageRules z0_imageDiary _ _ _ _ ht1a) (cwV 1 F.1.2.2.2.2 (gV q4_199 q4_201 qs_18 q1_1 q4_202) rfl rfl rfl (by decide +kernel) ⟨Nat.le_of_ble_eq_true rfl, Nat.le_of_ble_eq_true rfl⟩) rfl rfl rfl rfl (by decide) rfl rfl rfl rfl rfl rfl (Nat.le_of_ble_eq_true rfl) ⟨Nat.zero_le _, Nat.zero_le _⟩ dX11_guests_2 ?_
    refine a_iloadn (pc := 5) (j := 2) F dX11_guests_5 rfl rfl ?_
    refine a_iconst (pc := 6) F dX11_guests_6 kc_0 ?_
    refine a_bipush (pc := 7) F dX11_guests_7 kb_9 ?_
    obtain ⟨t2, ht2a, hf⟩ := bd_some hf
    rcases t2 with t2a | t2x
    · replace hf := sm_inl hf
      refine a_callSv (pc := 9) (bs' := [bX11 y a0 z0_tape z0_tokens z0_hillReader z0_lawReader (a1 0) z0_rules (a2 0) z0_spare z0_draft z0_spareDiary z0_guess (a3 0) z0_imageHill z0_imageRules z0_imageDiary v0, bX3 y a1 v1, bX1 y a2 v2, bX8 y a3 a4 a5 v3, bPH y a4 v4, bPD y a5 v5]) F [] (c_X11_checkNumber l D y ek n  _ _ _ _ ht2a) (va_cwS 3 F.1.2.2.2.2 (gS q5_19 q5_20 q1_1 q5_21) rfl rfl rfl (by decide +kernel) ⟨Nat.le_of_ble_eq_true rfl, Nat.le_of_ble_eq_true rfl⟩) (by decide) rfl rfl rfl rfl rfl rfl (Nat.le_of_ble_eq_true rfl) ⟨Nat.zero_le _, Nat.zero_le _⟩ dX11_guests_9 ?_
      refine a_aloadn (pc := 12) (j := 0) F dX11_guests_12 rfl rfl ?_
      refine a_get (pc := 13) (kb := 0) (j := 0) (f := 14) F iW_X11 rfl rfl rfl (by decide) (tl q2_70) (fun _ h => h) rfl dX11_guests_13 ?_
      refine a_aloadn (pc := 16) (j := 0) F dX11_guests_16 rfl rfl ?_
      refine a_get (pc := 17) (kb := 0) (j := 0) (f := 7) F iW_X11 rfl rfl rfl (by decide) (tl q2_63) (fun _ h => h) rfl dX11_guests_17 ?_
      refine a_aloadn (pc := 20) (j := 0) F dX11_guests_20 rfl rfl ?_
      refine a_get (pc := 21) (kb := 0) (j := 0) (f := 9) F iW_X11 rfl rfl rfl (by decide) (tl q2_65) (fun _ h => h) rfl dX11_guests_21 ?_
      obtain ⟨t3, ht3, hf⟩ := bd_some hf
      refine a_callVv (pc := 24) (bs' := [bX11 y a0 z0_tape z0_tokens z0_hillReader z0_lawReader (a1 0) z0_rules (a2 0) z0_spare z0_draft z0_spareDiary z0_guess (a3 0) z0_imageHill z0_imageRules z0_imageDiary v0, bX3 y a1 v1, bX1 y a2 v2, bX8 y a3 a4 a5 t3.1, bPH y a4 t3.2.1, bPD y a5 t3.2.2]) (kb := 3) (j := 0) F [3, 4, 5, 1, 2] (c_X8_remember l D y ek n a3 a4 a5 a1 a2 _ _ _ _ _ _ ht3) (cwV 2 F.1.2.2.2.2 (gV q2_137 q2_138 q2_139 q1_10 q2_140) rfl rfl rfl (by decide +kernel) ⟨Nat.le_of_ble_eq_true rfl, Nat.le_of_ble_eq_true rfl⟩) rfl rfl rfl rfl (by decide) rfl rfl rfl rfl rfl rfl (Nat.le_of_ble_eq_true rfl) ⟨Nat.zero_le _, Nat.zero_le _⟩ dX11_guests_24 ?_
      refine a_aloadn (pc := 27) (j := 0) F dX11_guests_27 rfl rfl ?_
      refine a_get (pc := 28) (kb := 0) (j := 0) (f := 7) F iW_X11 rfl rfl rfl (by decide) (tl q2_63) (fun _ h => h) rfl dX11_guests_28 ?_
      refine a_get (pc := 31) (kb := 1) (j := 0) (f := 14) F iW_X3 rfl rfl rfl (by decide) (tl q1_106) (fun _ h => h) rfl dX11_guests_31 ?_
      refine a_iloadn (pc := 34) (j := 1) F dX11_guests_34 rfl rfl ?_
      obtain ⟨h4, hf⟩ := gd_some hf
      refine a_iald (pc := 35) (kb := 1) (j := 6) F rfl rfl h4 dX11_guests_35 ?_
      obtain ⟨x3_5, ex3_5, hf⟩ := nm_some hf
      refine a_nmi ex3_5 ?_
      refine a_istoren (pc := 36) (lv' := [(0, .ref (a0 0)), (1, .int x1), (2, .int x2), (3, .int x3_5)]) F [1, 2, 3, 0] dX11_guests_36 rfl (by decide) rfl ?_
      refine a_aloadn (pc := 37) (j := 0) F dX11_guests_37 rfl rfl ?_
      refine a_get (pc := 38) (kb := 0) (j := 0) (f := 7) F iW_X11 rfl rfl rfl (by decide) (tl q2_63) (fun _ h => h) rfl dX11_guests_38 ?_
      refine a_get (pc := 41) (kb := 1) (j := 0) (f := 14) F iW_X3 rfl rfl rfl (by decide) (tl q1_106) (fun _ h => h) rfl dX11_guests_41 ?_
      refine a_iloadn (pc := 44) (j := 1) F dX11_guests_44 rfl rfl ?_
      refine a_iloadn (pc := 45) (j := 2) F dX11_guests_45 rfl rfl ?_
      obtain ⟨h6, hf⟩ := gd_some hf
      obtain ⟨u7, eu7, hf⟩ := nm_some hf
      refine a_iast (pc := 46) (kb := 1) (j := 6) (bs' := [bX11 y a0 z0_tape z0_tokens z0_hillReader z0_lawReader (a1 0) z0_rules (a2 0) z0_spare z0_draft z0_spareDiary z0_guess (a3 0) z0_imageHill z0_imageRules z0_imageDiary v0, bX3 y a1 u7, bX1 y a2 v2, bX8 y a3 a4 a5 t3.1, bPH y a4 t3.2.1, bPD y a5 t3.2.2]) F rfl rfl h6 (by rw [eu7]; rfl) dX11_guests_46 ?_
      refine a_aloadn (pc := 47) (j := 0) F dX11_guests_47 rfl rfl ?_
      refine a_get (pc := 48) (kb := 0) (j := 0) (f := 7) F iW_X11 rfl rfl rfl (by decide) (tl q2_63) (fun _ h => h) rfl dX11_guests_48 ?_
      obtain ⟨t8, ht8, hf⟩ := bd_some hf
      refine a_callVv (pc := 51) (bs' := [bX11 y a0 z0_tape z0_tokens z0_hillReader z0_lawReader (a1 0) z0_rules (a2 0) z0_spare z0_draft z0_spareDiary z0_guess (a3 0) z0_imageHill z0_imageRules z0_imageDiary v0, bX3 y a1 t8, bX1 y a2 v2, bX8 y a3 a4 a5 t3.1, bPH y a4 t3.2.1, bPD y a5 t3.2.2]) (kb := 1) (j := 0) F [1] (c_X3_weigh l D y ek n a1 _ _ ht8) (cwV 0 F.1.2.2.2.2 (gV q2_153 q2_154 q2_155 q1_3 q2_156) rfl rfl rfl (by decide +kernel) ⟨Nat.le_of_ble_eq_true rfl, Nat.le_of_ble_eq_true rfl⟩) rfl rfl rfl rfl (by decide) rfl rfl rfl rfl rfl rfl (Nat.le_of_ble_eq_true rfl) ⟨Nat.zero_le _, Nat.zero_le _⟩ dX11_guests_51 ?_
      refine a_iloadn (pc := 54) (j := 3) F dX11_guests_54 rfl rfl ?_
      exact absurd hf (by simp)
    · replace hf := sm_inr hf
      obtain rfl := Sum.inr.inj (Option.some.inj hf)
      exact a_callSx (pc := 9) (bs' := [bX11 y a0 z0_tape z0_tokens z0_hillReader z0_lawReader (a1 0) z0_rules (a2 0) z0_spare z0_draft z0_spareDiary z0_guess (a3 0) z0_imageHill z0_imageRules z0_imageDiary v0, bX3 y a1 v1, bX1 y a2 v2, bX8 y a3 a4 a5 v3, bPH y a4 v4, bPD y a5 v5]) F [] (x_X11_checkNumber l hlt D y ek n  _ _ _ _ ht2a) (va_cwS 3 F.1.2.2.2.2 (gS q5_19 q5_20 q1_1 q5_21) rfl rfl rfl (by decide +kernel) ⟨Nat.le_of_ble_eq_true rfl, Nat.le_of_ble_eq_true rfl⟩) (by decide) rfl rfl rfl rfl rfl rfl (Nat.le_of_ble_eq_true rfl) ⟨Nat.le_of_ble_eq_true rfl, Nat.le_of_ble_eq_true rfl⟩ dX11_guests_9 (fun H1 locs1 ls q9 ce h1 h2 h3 h4 h5 h6 h7 => hout H1 locs1 ls _ _ _ _ q9 ce h1 h2 h3 (Nat.le_of_ble_eq_true rfl) (Nat.le_of_ble_eq_true rfl) h5 h6 h7)
  · replace hf := sm_inr hf
    obtain rfl := Sum.inr.inj (Option.some.inj hf)
    exact a_callVx (pc := 2) (bs' := [bX11 y a0 z0_tape z0_tokens z0_hillReader z0_lawReader (a1 0) z0_rules (a2 0) z0_spare z0_draft z0_spareDiary z0_guess (a3 0) z0_imageHill z0_imageRules z0_imageDiary v0, bX3 y a1 v1, bX1 y a2 v2, bX8 y a3 a4 a5 v3, bPH y a4 v4, bPD y a5 v5]) (kb := 0) (j := 0) F [0, 1] (x_X11_checkHouse l hlt D y ek n a0 a1 z0_tape z0_tokens z0_hillReader z0_lawReader z0_rules (a2 0) z0_spare z0_draft z0_spareDiary z0_guess (a3 0) z0_imageHill z0_imageRules z0_imageDiary _ _ _ _ ht1a) (cwV 1 F.1.2.2.2.2 (gV q4_199 q4_201 qs_18 q1_1 q4_202) rfl rfl rfl (by decide +kernel) ⟨Nat.le_of_ble_eq_true rfl, Nat.le_of_ble_eq_true rfl⟩) rfl rfl rfl rfl (by decide) rfl rfl rfl rfl rfl rfl (Nat.le_of_ble_eq_true rfl) ⟨Nat.le_of_ble_eq_true rfl, Nat.le_of_ble_eq_true rfl⟩ dX11_guests_2 (fun H1 locs1 ls q9 ce h1 h2 h3 h4 h5 h6 h7 => hout H1 locs1 ls _ _ _ _ q9 ce h1 h2 h3 (Nat.le_of_ble_eq_true rfl) (Nat.le_of_ble_eq_true rfl) h5 h6 h7)

abbrev wX11_prop : List Cond := Cond.code yX11_prop cX11_prop 4 (some .boolean) :: WALL
def m_X11_prop (n : Nat) (v0 : St) (v1 : St) (v2 : St) (v3 : St) (v4 : Nat → St) (v5 : Nat → St) (x1 : Int32) (x2 : Int32) : Option ((Int32 × St × St × (Nat → St) × (Nat → St)) ⊕ (Nat × St × St × (Nat → St) × (Nat → St))) :=
bd (m_X11_checkPlank n v0 v1 x1) (fun t1 => sm t1 (fun t1a =>
bd (m_X8_remember n v3 v4 v5 v1 v2) (fun t2 =>
(if ix x1 5 then nm (v1 11 (x1).toNatClampNeg) (fun x3_4 =>
(if ix x1 5 then nm (su v1 11 (x1).toNatClampNeg (zb x2)) (fun u6 =>
bd (m_X3_weigh n u6) (fun t7 =>
(if x3_4 = x2 then
some (Sum.inl (0, t7, t2.1, t2.2.1, t2.2.2))
else
some (Sum.inl (1, t7, t2.1, t2.2.1, t2.2.2))))) else none)) else none))) (fun t1x => some (Sum.inr (t1x, v1, v3, v4, v5))))
set_option maxHeartbeats 4000000 in
set_option maxRecDepth 100000 in
theorem c_X11_prop (l : Launch) (D : va_G) (y : Nat → ClassId) (ek : EK) (n : Nat) (a0 : Nat → Nat) (a1 : Nat → Nat) (a2 : Nat → Nat) (a3 : Nat → Nat) (a4 : Nat → Nat → Nat) (a5 : Nat → Nat → Nat) (z0_tape : Nat) (z0_tokens : Nat) (z0_hillReader : Nat) (z0_lawReader : Nat) (z0_rules : Nat) (z0_spare : Nat) (z0_draft : Nat) (z0_spareDiary : Nat) (z0_guess : Nat) (z0_imageHill : Nat) (z0_imageRules : Nat) (z0_imageDiary : Nat) (v0 : St) (v1 : St) (v2 : St) (v3 : St) (v4 : Nat → St) (v5 : Nat → St) (x1 : Int32) (x2 : Int32) (res : Int32 × St × St × (Nat → St) × (Nat → St)) (hf : m_X11_prop n v0 v1 v2 v3 v4 v5 x1 x2 = some (Sum.inl res)) : CI l yX11_prop wX11_prop { frames := 7, cells := 0, slots := 0, locals := 113 } D y ek [.ref (a0 0), .int x1, .int x2] [bX11 y a0 z0_tape z0_tokens z0_hillReader z0_lawReader (a1 0) z0_rules (a2 0) z0_spare z0_draft z0_spareDiary z0_guess (a3 0) z0_imageHill z0_imageRules z0_imageDiary v0, bX3 y a1 v1, bX1 y a2 v2, bX8 y a3 a4 a5 v3, bPH y a4 v4, bPD y a5 v5] (res.1) [bX11 y a0 z0_tape z0_tokens z0_hillReader z0_lawReader (a1 0) z0_rules (a2 0) z0_spare z0_draft z0_spareDiary z0_guess (a3 0) z0_imageHill z0_imageRules z0_imageDiary v0, bX3 y a1 res.2.1, bX1 y a2 v2, bX8 y a3 a4 a5 res.2.2.1, bPH y a4 res.2.2.2.1, bPD y a5 res.2.2.2.2] 0 0 := by
  unfold m_X11_prop at hf
  refine ci_of (cc := cX11_prop) (maxL := 4) (by decide) rfl rfl (Nat.le_of_ble_eq_true rfl) ?_
  intro p e s m below meth c Q A F hret
  refine a_lv (lv' := [(0, .ref (a0 0)), (1, .int x1), (2, .int x2)]) rfl ?_
  refine a_aloadn (pc := 0) (j := 0) F dX11_prop_0 rfl rfl ?_
  refine a_iloadn (pc := 1) (j := 1) F dX11_prop_1 rfl rfl ?_
  obtain ⟨t1, ht1a, hf⟩ := bd_some hf
  rcases t1 with t1a | t1x
  · replace hf := sm_inl hf
    refine a_callVv (pc := 2) (bs' := [bX11 y a0 z0_tape z0_tokens z0_hillReader z0_lawReader (a1 0) z0_rules (a2 0) z0_spare z0_draft z0_spareDiary z0_guess (a3 0) z0_imageHill z0_imageRules z0_imageDiary v0, bX3 y a1 v1, bX1 y a2 v2, bX8 y a3 a4 a5 v3, bPH y a4 v4, bPD y a5 v5]) (kb := 0) (j := 0) F [0, 1] (c_X11_checkPlank l D y ek n a0 a1 z0_tape z0_tokens z0_hillReader z0_lawReader z0_rules (a2 0) z0_spare z0_draft z0_spareDiary z0_guess (a3 0) z0_imageHill z0_imageRules z0_imageDiary _ _ _ _ ht1a) (cwV 1 F.1.2.2.2.2 (gV q4_153 q4_155 qs_17 q1_1 q4_156) rfl rfl rfl (by decide +kernel) ⟨Nat.le_of_ble_eq_true rfl, Nat.le_of_ble_eq_true rfl⟩) rfl rfl rfl rfl (by decide) rfl rfl rfl rfl rfl rfl (Nat.le_of_ble_eq_true rfl) ⟨Nat.zero_le _, Nat.zero_le _⟩ dX11_prop_2 ?_
    refine a_aloadn (pc := 5) (j := 0) F dX11_prop_5 rfl rfl ?_
    refine a_get (pc := 6) (kb := 0) (j := 0) (f := 14) F iW_X11 rfl rfl rfl (by decide) (tl q2_70) (fun _ h => h) rfl dX11_prop_6 ?_
    refine a_aloadn (pc := 9) (j := 0) F dX11_prop_9 rfl rfl ?_
    refine a_get (pc := 10) (kb := 0) (j := 0) (f := 7) F iW_X11 rfl rfl rfl (by decide) (tl q2_63) (fun _ h => h) rfl dX11_prop_10 ?_
    refine a_aloadn (pc := 13) (j := 0) F dX11_prop_13 rfl rfl ?_
    refine a_get (pc := 14) (kb := 0) (j := 0) (f := 9) F iW_X11 rfl rfl rfl (by decide) (tl q2_65) (fun _ h => h) rfl dX11_prop_14 ?_
    obtain ⟨t2, ht2, hf⟩ := bd_some hf
    refine a_callVv (pc := 17) (bs' := [bX11 y a0 z0_tape z0_tokens z0_hillReader z0_lawReader (a1 0) z0_rules (a2 0) z0_spare z0_draft z0_spareDiary z0_guess (a3 0) z0_imageHill z0_imageRules z0_imageDiary v0, bX3 y a1 v1, bX1 y a2 v2, bX8 y a3 a4 a5 t2.1, bPH y a4 t2.2.1, bPD y a5 t2.2.2]) (kb := 3) (j := 0) F [3, 4, 5, 1, 2] (c_X8_remember l D y ek n a3 a4 a5 a1 a2 _ _ _ _ _ _ ht2) (cwV 2 F.1.2.2.2.2 (gV q2_137 q2_138 q2_139 q1_10 q2_140) rfl rfl rfl (by decide +kernel) ⟨Nat.le_of_ble_eq_true rfl, Nat.le_of_ble_eq_true rfl⟩) rfl rfl rfl rfl (by decide) rfl rfl rfl rfl rfl rfl (Nat.le_of_ble_eq_true rfl) ⟨Nat.zero_le _, Nat.zero_le _⟩ dX11_prop_17 ?_
    refine a_aloadn (pc := 20) (j := 0) F dX11_prop_20 rfl rfl ?_
    refine a_get (pc := 21) (kb := 0) (j := 0) (f := 7) F iW_X11 rfl rfl rfl (by decide) (tl q2_63) (fun _ h => h) rfl dX11_prop_21 ?_
    refine a_get (pc := 24) (kb := 1) (j := 0) (f := 11) F iW_X3 rfl rfl rfl (by decide) (tl q1_98) (fun _ h => h) rfl dX11_prop_24 ?_
    refine a_iloadn (pc := 27) (j := 1) F dX11_prop_27 rfl rfl ?_
    obtain ⟨h3, hf⟩ := gd_some hf
    refine a_zald (pc := 28) (kb := 1) (j := 3) F rfl rfl h3 dX11_prop_28 ?_
    obtain ⟨x3_4, ex3_4, hf⟩ := nm_some hf
    refine a_nmi ex3_4 ?_
    refine a_istoren (pc := 29) (lv' := [(0, .ref (a0 0)), (1, .int x1), (2, .int x2), (3, .int x3_4)]) F [1, 2, 3, 0] dX11_prop_29 rfl (by decide) rfl ?_
    refine a_aloadn (pc := 30) (j := 0) F dX11_prop_30 rfl rfl ?_
    refine a_get (pc := 31) (kb := 0) (j := 0) (f := 7) F iW_X11 rfl rfl rfl (by decide) (tl q2_63) (fun _ h => h) rfl dX11_prop_31 ?_
    refine a_get (pc := 34) (kb := 1) (j := 0) (f := 11) F iW_X3 rfl rfl rfl (by decide) (tl q1_98) (fun _ h => h) rfl dX11_prop_34 ?_
    refine a_iloadn (pc := 37) (j := 1) F dX11_prop_37 rfl rfl ?_
    refine a_iloadn (pc := 38) (j := 2) F dX11_prop_38 rfl rfl ?_
    obtain ⟨h5, hf⟩ := gd_some hf
    obtain ⟨u6, eu6, hf⟩ := nm_some hf
    refine a_zast (pc := 39) (kb := 1) (j := 3) (bs' := [bX11 y a0 z0_tape z0_tokens z0_hillReader z0_lawReader (a1 0) z0_rules (a2 0) z0_spare z0_draft z0_spareDiary z0_guess (a3 0) z0_imageHill z0_imageRules z0_imageDiary v0, bX3 y a1 u6, bX1 y a2 v2, bX8 y a3 a4 a5 t2.1, bPH y a4 t2.2.1, bPD y a5 t2.2.2]) F rfl rfl h5 (by rw [eu6]; rfl) dX11_prop_39 ?_
    refine a_aloadn (pc := 40) (j := 0) F dX11_prop_40 rfl rfl ?_
    refine a_get (pc := 41) (kb := 0) (j := 0) (f := 7) F iW_X11 rfl rfl rfl (by decide) (tl q2_63) (fun _ h => h) rfl dX11_prop_41 ?_
    obtain ⟨t7, ht7, hf⟩ := bd_some hf
    refine a_callVv (pc := 44) (bs' := [bX11 y a0 z0_tape z0_tokens z0_hillReader z0_lawReader (a1 0) z0_rules (a2 0) z0_spare z0_draft z0_spareDiary z0_guess (a3 0) z0_imageHill z0_imageRules z0_imageDiary v0, bX3 y a1 t7, bX1 y a2 v2, bX8 y a3 a4 a5 t2.1, bPH y a4 t2.2.1, bPD y a5 t2.2.2]) (kb := 1) (j := 0) F [1] (c_X3_weigh l D y ek n a1 _ _ ht7) (cwV 0 F.1.2.2.2.2 (gV q2_153 q2_154 q2_155 q1_3 q2_156) rfl rfl rfl (by decide +kernel) ⟨Nat.le_of_ble_eq_true rfl, Nat.le_of_ble_eq_true rfl⟩) rfl rfl rfl rfl (by decide) rfl rfl rfl rfl rfl rfl (Nat.le_of_ble_eq_true rfl) ⟨Nat.zero_le _, Nat.zero_le _⟩ dX11_prop_44 ?_
    refine a_iloadn (pc := 47) (j := 3) F dX11_prop_47 rfl rfl ?_
    refine a_iloadn (pc := 48) (j := 2) F dX11_prop_48 rfl rfl ?_
    refine a_icmp_eq (pc := 49) (tgt := 56) F dX11_prop_49 (by decide) (fun h => ?_) (fun h => ?_)
    · replace hf := it_pos h hf
      refine a_iconst (pc := 56) F dX11_prop_56 kc_0 ?_
      obtain rfl := Sum.inl.inj (Option.some.inj hf)
      exact hret _ _ _ _ (Nat.zero_le _) (Nat.zero_le _) (z_nar (Or.inl rfl)) dX11_prop_57
    · replace hf := it_neg h hf
      refine a_iconst (pc := 52) F dX11_prop_52 kc_1 ?_
      refine a_goto (pc := 53) (tgt := 57) F dX11_prop_53 (by decide) ?_
      obtain rfl := Sum.inl.inj (Option.some.inj hf)
      exact hret _ _ _ _ (Nat.zero_le _) (Nat.zero_le _) (z_nar (Or.inr rfl)) dX11_prop_57
  · replace hf := sm_inr hf
    exact absurd hf (by simp)
set_option maxHeartbeats 4000000 in
set_option maxRecDepth 100000 in
theorem x_X11_prop (l : Launch) (hlt : l.stackTraces = false) (D : va_G) (y : Nat → ClassId) (ek : EK) (n : Nat) (a0 : Nat → Nat) (a1 : Nat → Nat) (a2 : Nat → Nat) (a3 : Nat → Nat) (a4 : Nat → Nat → Nat) (a5 : Nat → Nat → Nat) (z0_tape : Nat) (z0_tokens : Nat) (z0_hillReader : Nat) (z0_lawReader : Nat) (z0_rules : Nat) (z0_spare : Nat) (z0_draft : Nat) (z0_spareDiary : Nat) (z0_guess : Nat) (z0_imageHill : Nat) (z0_imageRules : Nat) (z0_imageDiary : Nat) (v0 : St) (v1 : St) (v2 : St) (v3 : St) (v4 : Nat → St) (v5 : Nat → St) (x1 : Int32) (x2 : Int32) (res : Nat × St × St × (Nat → St) × (Nat → St)) (hf : m_X11_prop n v0 v1 v2 v3 v4 v5 x1 x2 = some (Sum.inr res)) : CX l yX11_prop wX11_prop { frames := 7, cells := 1, slots := 6, locals := 113 } D y ek [.ref (a0 0), .int x1, .int x2] [bX11 y a0 z0_tape z0_tokens z0_hillReader z0_lawReader (a1 0) z0_rules (a2 0) z0_spare z0_draft z0_spareDiary z0_guess (a3 0) z0_imageHill z0_imageRules z0_imageDiary v0, bX3 y a1 v1, bX1 y a2 v2, bX8 y a3 a4 a5 v3, bPH y a4 v4, bPD y a5 v5] (eX.getD res.1 "") [bX11 y a0 z0_tape z0_tokens z0_hillReader z0_lawReader (a1 0) z0_rules (a2 0) z0_spare z0_draft z0_spareDiary z0_guess (a3 0) z0_imageHill z0_imageRules z0_imageDiary v0, bX3 y a1 res.2.1, bX1 y a2 v2, bX8 y a3 a4 a5 res.2.2.1, bPH y a4 res.2.2.2.1, bPD y a5 res.2.2.2.2] 1 6 := by
  unfold m_X11_prop at hf
  refine cx_of (cc := cX11_prop) (maxL := 4) hlt (by decide) rfl (Nat.le_of_ble_eq_true rfl) (Nat.le_refl 1) (Nat.le_refl 6) ?_
  intro p e s m below meth c Q A F hthr hout
  refine a_lv (lv' := [(0, .ref (a0 0)), (1, .int x1), (2, .int x2)]) rfl ?_
  refine a_aloadn (pc := 0) (j := 0) F dX11_prop_0 rfl rfl ?_
  refine a_iloadn (pc := 1) (j := 1) F dX11_prop_1 rfl rfl ?_
  obtain ⟨t1, ht1a, hf⟩ := bd_some hf
  rcases t1 with t1a | t1x
  · replace hf := sm_inl hf
    refine a_callVv (pc := 2) (bs' := [bX11 y a0 z0_tape z0_tokens z0_hillReader z0_lawReader (a1 0) z0_rules (a2 0) z0_spare z0_draft z0_spareDiary z0_guess (a3 0) z0_imageHill z0_imageRules z0_imageDiary v0, bX3 y a1 v1, bX1 y a2 v2, bX8 y a3 a4 a5 v3, bPH y a4 v4, bPD y a5 v5]) (kb := 0) (j := 0) F [0, 1] (c_X11_checkPlank l D y ek n a0 a1 z0_tape z0_tokens z0_hillReader z0_lawReader z0_rules (a2 0) z0_spare z0_draft z0_spareDiary z0_guess (a3 0) z0_imageHill z0_imageRules z0_imageDiary _ _ _ _ ht1a) (cwV 1 F.1.2.2.2.2 (gV q4_153 q4_155 qs_17 q1_1 q4_156) rfl rfl rfl (by decide +kernel) ⟨Nat.le_of_ble_eq_true rfl, Nat.le_of_ble_eq_true rfl⟩) rfl rfl rfl rfl (by decide) rfl rfl rfl rfl rfl rfl (Nat.le_of_ble_eq_true rfl) ⟨Nat.zero_le _, Nat.zero_le _⟩ dX11_prop_2 ?_
    refine a_aloadn (pc := 5) (j := 0) F dX11_prop_5 rfl rfl ?_
    refine a_get (pc := 6) (kb := 0) (j := 0) (f := 14) F iW_X11 rfl rfl rfl (by decide) (tl q2_70) (fun _ h => h) rfl dX11_prop_6 ?_
    refine a_aloadn (pc := 9) (j := 0) F dX11_prop_9 rfl rfl ?_
    refine a_get (pc := 10) (kb := 0) (j := 0) (f := 7) F iW_X11 rfl rfl rfl (by decide) (tl q2_63) (fun _ h => h) rfl dX11_prop_10 ?_
    refine a_aloadn (pc := 13) (j := 0) F dX11_prop_13 rfl rfl ?_
    refine a_get (pc := 14) (kb := 0) (j := 0) (f := 9) F iW_X11 rfl rfl rfl (by decide) (tl q2_65) (fun _ h => h) rfl dX11_prop_14 ?_
    obtain ⟨t2, ht2, hf⟩ := bd_some hf
    refine a_callVv (pc := 17) (bs' := [bX11 y a0 z0_tape z0_tokens z0_hillReader z0_lawReader (a1 0) z0_rules (a2 0) z0_spare z0_draft z0_spareDiary z0_guess (a3 0) z0_imageHill z0_imageRules z0_imageDiary v0, bX3 y a1 v1, bX1 y a2 v2, bX8 y a3 a4 a5 t2.1, bPH y a4 t2.2.1, bPD y a5 t2.2.2]) (kb := 3) (j := 0) F [3, 4, 5, 1, 2] (c_X8_remember l D y ek n a3 a4 a5 a1 a2 _ _ _ _ _ _ ht2) (cwV 2 F.1.2.2.2.2 (gV q2_137 q2_138 q2_139 q1_10 q2_140) rfl rfl rfl (by decide +kernel) ⟨Nat.le_of_ble_eq_true rfl, Nat.le_of_ble_eq_true rfl⟩) rfl rfl rfl rfl (by decide) rfl rfl rfl rfl rfl rfl (Nat.le_of_ble_eq_true rfl) ⟨Nat.zero_le _, Nat.zero_le _⟩ dX11_prop_17 ?_
    refine a_aloadn (pc := 20) (j := 0) F dX11_prop_20 rfl rfl ?_
    refine a_get (pc := 21) (kb := 0) (j := 0) (f := 7) F iW_X11 rfl rfl rfl (by decide) (tl q2_63) (fun _ h => h) rfl dX11_prop_21 ?_
    refine a_get (pc := 24) (kb := 1) (j := 0) (f := 11) F iW_X3 rfl rfl rfl (by decide) (tl q1_98) (fun _ h => h) rfl dX11_prop_24 ?_
    refine a_iloadn (pc := 27) (j := 1) F dX11_prop_27 rfl rfl ?_
    obtain ⟨h3, hf⟩ := gd_some hf
    refine a_zald (pc := 28) (kb := 1) (j := 3) F rfl rfl h3 dX11_prop_28 ?_
    obtain ⟨x3_4, ex3_4, hf⟩ := nm_some hf
    refine a_nmi ex3_4 ?_
    refine a_istoren (pc := 29) (lv' := [(0, .ref (a0 0)), (1, .int x1), (2, .int x2), (3, .int x3_4)]) F [1, 2, 3, 0] dX11_prop_29 rfl (by decide) rfl ?_
    refine a_aloadn (pc := 30) (j := 0) F dX11_prop_30 rfl rfl ?_
    refine a_get (pc := 31) (kb := 0) (j := 0) (f := 7) F iW_X11 rfl rfl rfl (by decide) (tl q2_63) (fun _ h => h) rfl dX11_prop_31 ?_
    refine a_get (pc := 34) (kb := 1) (j := 0) (f := 11) F iW_X3 rfl rfl rfl (by decide) (tl q1_98) (fun _ h => h) rfl dX11_prop_34 ?_
    refine a_iloadn (pc := 37) (j := 1) F dX11_prop_37 rfl rfl ?_
    refine a_iloadn (pc := 38) (j := 2) F dX11_prop_38 rfl rfl ?_
    obtain ⟨h5, hf⟩ := gd_some hf
    obtain ⟨u6, eu6, hf⟩ := nm_some hf
    refine a_zast (pc := 39) (kb := 1) (j := 3) (bs' := [bX11 y a0 z0_tape z0_tokens z0_hillReader z0_lawReader (a1 0) z0_rules (a2 0) z0_spare z0_draft z0_spareDiary z0_guess (a3 0) z0_imageHill z0_imageRules z0_imageDiary v0, bX3 y a1 u6, bX1 y a2 v2, bX8 y a3 a4 a5 t2.1, bPH y a4 t2.2.1, bPD y a5 t2.2.2]) F rfl rfl h5 (by rw [eu6]; rfl) dX11_prop_39 ?_
    refine a_aloadn (pc := 40) (j := 0) F dX11_prop_40 rfl rfl ?_
    refine a_get (pc := 41) (kb := 0) (j := 0) (f := 7) F iW_X11 rfl rfl rfl (by decide) (tl q2_63) (fun _ h => h) rfl dX11_prop_41 ?_
    obtain ⟨t7, ht7, hf⟩ := bd_some hf
    refine a_callVv (pc := 44) (bs' := [bX11 y a0 z0_tape z0_tokens z0_hillReader z0_lawReader (a1 0) z0_rules (a2 0) z0_spare z0_draft z0_spareDiary z0_guess (a3 0) z0_imageHill z0_imageRules z0_imageDiary v0, bX3 y a1 t7, bX1 y a2 v2, bX8 y a3 a4 a5 t2.1, bPH y a4 t2.2.1, bPD y a5 t2.2.2]) (kb := 1) (j := 0) F [1] (c_X3_weigh l D y ek n a1 _ _ ht7) (cwV 0 F.1.2.2.2.2 (gV q2_153 q2_154 q2_155 q1_3 q2_156) rfl rfl rfl (by decide +kernel) ⟨Nat.le_of_ble_eq_true rfl, Nat.le_of_ble_eq_true rfl⟩) rfl rfl rfl rfl (by decide) rfl rfl rfl rfl rfl rfl (Nat.le_of_ble_eq_true rfl) ⟨Nat.zero_le _, Nat.zero_le _⟩ dX11_prop_44 ?_
    refine a_iloadn (pc := 47) (j := 3) F dX11_prop_47 rfl rfl ?_
    refine a_iloadn (pc := 48) (j := 2) F dX11_prop_48 rfl rfl ?_
    refine a_icmp_eq (pc := 49) (tgt := 56) F dX11_prop_49 (by decide) (fun h => ?_) (fun h => ?_)
    · replace hf := it_pos h hf
      refine a_iconst (pc := 56) F dX11_prop_56 kc_0 ?_
      exact absurd hf (by simp)
    · replace hf := it_neg h hf
      refine a_iconst (pc := 52) F dX11_prop_52 kc_1 ?_
      refine a_goto (pc := 53) (tgt := 57) F dX11_prop_53 (by decide) ?_
      exact absurd hf (by simp)
  · replace hf := sm_inr hf
    obtain rfl := Sum.inr.inj (Option.some.inj hf)
    exact a_callVx (pc := 2) (bs' := [bX11 y a0 z0_tape z0_tokens z0_hillReader z0_lawReader (a1 0) z0_rules (a2 0) z0_spare z0_draft z0_spareDiary z0_guess (a3 0) z0_imageHill z0_imageRules z0_imageDiary v0, bX3 y a1 v1, bX1 y a2 v2, bX8 y a3 a4 a5 v3, bPH y a4 v4, bPD y a5 v5]) (kb := 0) (j := 0) F [0, 1] (x_X11_checkPlank l hlt D y ek n a0 a1 z0_tape z0_tokens z0_hillReader z0_lawReader z0_rules (a2 0) z0_spare z0_draft z0_spareDiary z0_guess (a3 0) z0_imageHill z0_imageRules z0_imageDiary _ _ _ _ ht1a) (cwV 1 F.1.2.2.2.2 (gV q4_153 q4_155 qs_17 q1_1 q4_156) rfl rfl rfl (by decide +kernel) ⟨Nat.le_of_ble_eq_true rfl, Nat.le_of_ble_eq_true rfl⟩) rfl rfl rfl rfl (by decide) rfl rfl rfl rfl rfl rfl (Nat.le_of_ble_eq_true rfl) ⟨Nat.le_of_ble_eq_true rfl, Nat.le_of_ble_eq_true rfl⟩ dX11_prop_2 (fun H1 locs1 ls q9 ce h1 h2 h3 h4 h5 h6 h7 => hout H1 locs1 ls _ _ _ _ q9 ce h1 h2 h3 (Nat.le_of_ble_eq_true rfl) (Nat.le_of_ble_eq_true rfl) h5 h6 h7)

abbrev wX11_mend : List Cond := Cond.code yX11_mend cX11_mend 3 (some .int) :: WALL
def m_X11_mend (n : Nat) (v0 : St) (v1 : St) (v2 : St) (v3 : St) (v4 : Nat → St) (v5 : Nat → St) (x1 : Int32) : Option ((Int32 × St × St × (Nat → St) × (Nat → St)) ⊕ (Nat × St × St × (Nat → St) × (Nat → St))) :=
bd (m_X11_checkPlank n v0 v1 x1) (fun t1 => sm t1 (fun t1a =>
(if ix x1 5 then (if (v1 12 (x1).toNatClampNeg) = 0 then
some (Sum.inr (4, v1, v3, v4, v5))
else
bd (m_X8_remember n v3 v4 v5 v1 v2) (fun t3 =>
(if ix x1 5 then nm (v1 10 (x1).toNatClampNeg) (fun x2_5 =>
(if ix x1 5 then nm (su v1 12 (x1).toNatClampNeg (zb 0)) (fun u7 =>
(if ix x1 5 then nm (su u7 10 (x1).toNatClampNeg 0) (fun u9 =>
bd (m_X3_weigh n u9) (fun t10 =>
some (Sum.inl (x2_5, t10, t3.1, t3.2.1, t3.2.2)))) else none)) else none)) else none))) else none)) (fun t1x => some (Sum.inr (t1x, v1, v3, v4, v5))))
set_option maxHeartbeats 4000000 in
set_option maxRecDepth 100000 in
theorem c_X11_mend (l : Launch) (D : va_G) (y : Nat → ClassId) (ek : EK) (n : Nat) (a0 : Nat → Nat) (a1 : Nat → Nat) (a2 : Nat → Nat) (a3 : Nat → Nat) (a4 : Nat → Nat → Nat) (a5 : Nat → Nat → Nat) (z0_tape : Nat) (z0_tokens : Nat) (z0_hillReader : Nat) (z0_lawReader : Nat) (z0_rules : Nat) (z0_spare : Nat) (z0_draft : Nat) (z0_spareDiary : Nat) (z0_guess : Nat) (z0_imageHill : Nat) (z0_imageRules : Nat) (z0_imageDiary : Nat) (v0 : St) (v1 : St) (v2 : St) (v3 : St) (v4 : Nat → St) (v5 : Nat → St) (x1 : Int32) (res : Int32 × St × St × (Nat → St) × (Nat → St)) (hf : m_X11_mend n v0 v1 v2 v3 v4 v5 x1 = some (Sum.inl res)) : CI l yX11_mend wX11_mend { frames := 7, cells := 0, slots := 0, locals := 113 } D y ek [.ref (a0 0), .int x1] [bX11 y a0 z0_tape z0_tokens z0_hillReader z0_lawReader (a1 0) z0_rules (a2 0) z0_spare z0_draft z0_spareDiary z0_guess (a3 0) z0_imageHill z0_imageRules z0_imageDiary v0, bX3 y a1 v1, bX1 y a2 v2, bX8 y a3 a4 a5 v3, bPH y a4 v4, bPD y a5 v5] (res.1) [bX11 y a0 z0_tape z0_tokens z0_hillReader z0_lawReader (a1 0) z0_rules (a2 0) z0_spare z0_draft z0_spareDiary z0_guess (a3 0) z0_imageHill z0_imageRules z0_imageDiary v0, bX3 y a1 res.2.1, bX1 y a2 v2, bX8 y a3 a4 a5 res.2.2.1, bPH y a4 res.2.2.2.1, bPD y a5 res.2.2.2.2] 0 0 := by
  unfold m_X11_mend at hf
  refine ci_of (cc := cX11_mend) (maxL := 3) (by decide) rfl rfl (Nat.le_of_ble_eq_true rfl) ?_
  intro p e s m below meth c Q A F hret
  refine a_lv (lv' := [(0, .ref (a0 0)), (1, .int x1)]) rfl ?_
  refine a_aloadn (pc := 0) (j := 0) F dX11_mend_0 rfl rfl ?_
  refine a_iloadn (pc := 1) (j := 1) F dX11_mend_1 rfl rfl ?_
  obtain ⟨t1, ht1a, hf⟩ := bd_some hf
  rcases t1 with t1a | t1x
  · replace hf := sm_inl hf
    refine a_callVv (pc := 2) (bs' := [bX11 y a0 z0_tape z0_tokens z0_hillReader z0_lawReader (a1 0) z0_rules (a2 0) z0_spare z0_draft z0_spareDiary z0_guess (a3 0) z0_imageHill z0_imageRules z0_imageDiary v0, bX3 y a1 v1, bX1 y a2 v2, bX8 y a3 a4 a5 v3, bPH y a4 v4, bPD y a5 v5]) (kb := 0) (j := 0) F [0, 1] (c_X11_checkPlank l D y ek n a0 a1 z0_tape z0_tokens z0_hillReader z0_lawReader z0_rules (a2 0) z0_spare z0_draft z0_spareDiary z0_guess (a3 0) z0_imageHill z0_imageRules z0_imageDiary _ _ _ _ ht1a) (cwV 1 F.1.2.2.2.2 (gV q4_153 q4_155 qs_17 q1_1 q4_156) rfl rfl rfl (by decide +kernel) ⟨Nat.le_of_ble_eq_true rfl, Nat.le_of_ble_eq_true rfl⟩) rfl rfl rfl rfl (by decide) rfl rfl rfl rfl rfl rfl (Nat.le_of_ble_eq_true rfl) ⟨Nat.zero_le _, Nat.zero_le _⟩ dX11_mend_2 ?_
    refine a_aloadn (pc := 5) (j := 0) F dX11_mend_5 rfl rfl ?_
    refine a_get (pc := 6) (kb := 0) (j := 0) (f := 7) F iW_X11 rfl rfl rfl (by decide) (tl q2_63) (fun _ h => h) rfl dX11_mend_6 ?_
    refine a_get (pc := 9) (kb := 1) (j := 0) (f := 12) F iW_X3 rfl rfl rfl (by decide) (tl q1_100) (fun _ h => h) rfl dX11_mend_9 ?_
    refine a_iloadn (pc := 12) (j := 1) F dX11_mend_12 rfl rfl ?_
    obtain ⟨h2, hf⟩ := gd_some hf
    refine a_zald (pc := 13) (kb := 1) (j := 4) F rfl rfl h2 dX11_mend_13 ?_
    refine a_if_ne (pc := 14) (tgt := 25) F dX11_mend_14 (by decide) (fun h => ?_) (fun h => ?_)
    · replace hf := it_neg h hf
      refine a_aloadn (pc := 25) (j := 0) F dX11_mend_25 rfl rfl ?_
      refine a_get (pc := 26) (kb := 0) (j := 0) (f := 14) F iW_X11 rfl rfl rfl (by decide) (tl q2_70) (fun _ h => h) rfl dX11_mend_26 ?_
      refine a_aloadn (pc := 29) (j := 0) F dX11_mend_29 rfl rfl ?_
      refine a_get (pc := 30) (kb := 0) (j := 0) (f := 7) F iW_X11 rfl rfl rfl (by decide) (tl q2_63) (fun _ h => h) rfl dX11_mend_30 ?_
      refine a_aloadn (pc := 33) (j := 0) F dX11_mend_33 rfl rfl ?_
      refine a_get (pc := 34) (kb := 0) (j := 0) (f := 9) F iW_X11 rfl rfl rfl (by decide) (tl q2_65) (fun _ h => h) rfl dX11_mend_34 ?_
      obtain ⟨t3, ht3, hf⟩ := bd_some hf
      refine a_callVv (pc := 37) (bs' := [bX11 y a0 z0_tape z0_tokens z0_hillReader z0_lawReader (a1 0) z0_rules (a2 0) z0_spare z0_draft z0_spareDiary z0_guess (a3 0) z0_imageHill z0_imageRules z0_imageDiary v0, bX3 y a1 v1, bX1 y a2 v2, bX8 y a3 a4 a5 t3.1, bPH y a4 t3.2.1, bPD y a5 t3.2.2]) (kb := 3) (j := 0) F [3, 4, 5, 1, 2] (c_X8_remember l D y ek n a3 a4 a5 a1 a2 _ _ _ _ _ _ ht3) (cwV 2 F.1.2.2.2.2 (gV q2_137 q2_138 q2_139 q1_10 q2_140) rfl rfl rfl (by decide +kernel) ⟨Nat.le_of_ble_eq_true rfl, Nat.le_of_ble_eq_true rfl⟩) rfl rfl rfl rfl (by decide) rfl rfl rfl rfl rfl rfl (Nat.le_of_ble_eq_true rfl) ⟨Nat.zero_le _, Nat.zero_le _⟩ dX11_mend_37 ?_
      refine a_aloadn (pc := 40) (j := 0) F dX11_mend_40 rfl rfl ?_
      refine a_get (pc := 41) (kb := 0) (j := 0) (f := 7) F iW_X11 rfl rfl rfl (by decide) (tl q2_63) (fun _ h => h) rfl dX11_mend_41 ?_
      refine a_get (pc := 44) (kb := 1) (j := 0) (f := 10) F iW_X3 rfl rfl rfl (by decide) (tl q1_96) (fun _ h => h) rfl dX11_mend_44 ?_
      refine a_iloadn (pc := 47) (j := 1) F dX11_mend_47 rfl rfl ?_
      obtain ⟨h4, hf⟩ := gd_some hf
      refine a_iald (pc := 48) (kb := 1) (j := 2) F rfl rfl h4 dX11_mend_48 ?_
      obtain ⟨x2_5, ex2_5, hf⟩ := nm_some hf
      refine a_nmi ex2_5 ?_
      refine a_istoren (pc := 49) (lv' := [(0, .ref (a0 0)), (1, .int x1), (2, .int x2_5)]) F [1, 2, 0] dX11_mend_49 rfl (by decide) rfl ?_
      refine a_aloadn (pc := 50) (j := 0) F dX11_mend_50 rfl rfl ?_
      refine a_get (pc := 51) (kb := 0) (j := 0) (f := 7) F iW_X11 rfl rfl rfl (by decide) (tl q2_63) (fun _ h => h) rfl dX11_mend_51 ?_
      refine a_get (pc := 54) (kb := 1) (j := 0) (f := 12) F iW_X3 rfl rfl rfl (by decide) (tl q1_100) (fun _ h => h) rfl dX11_mend_54 ?_
      refine a_iloadn (pc := 57) (j := 1) F dX11_mend_57 rfl rfl ?_
      refine a_iconst (pc := 58) F dX11_mend_58 kc_0 ?_
      obtain ⟨h6, hf⟩ := gd_some hf
      obtain ⟨u7, eu7, hf⟩ := nm_some hf
      refine a_zast (pc := 59) (kb := 1) (j := 4) (bs' := [bX11 y a0 z0_tape z0_tokens z0_hillReader z0_lawReader (a1 0) z0_rules (a2 0) z0_spare z0_draft z0_spareDiary z0_guess (a3 0) z0_imageHill z0_imageRules z0_imageDiary v0, bX3 y a1 u7, bX1 y a2 v2, bX8 y a3 a4 a5 t3.1, bPH y a4 t3.2.1, bPD y a5 t3.2.2]) F rfl rfl h6 (by rw [eu7]; rfl) dX11_mend_59 ?_
      refine a_aloadn (pc := 60) (j := 0) F dX11_mend_60 rfl rfl ?_
      refine a_get (pc := 61) (kb := 0) (j := 0) (f := 7) F iW_X11 rfl rfl rfl (by decide) (tl q2_63) (fun _ h => h) rfl dX11_mend_61 ?_
      refine a_get (pc := 64) (kb := 1) (j := 0) (f := 10) F iW_X3 rfl rfl rfl (by decide) (tl q1_96) (fun _ h => h) rfl dX11_mend_64 ?_
      refine a_iloadn (pc := 67) (j := 1) F dX11_mend_67 rfl rfl ?_
      refine a_iconst (pc := 68) F dX11_mend_68 kc_0 ?_
      obtain ⟨h8, hf⟩ := gd_some hf
      obtain ⟨u9, eu9, hf⟩ := nm_some hf
      refine a_iast (pc := 69) (kb := 1) (j := 2) (bs' := [bX11 y a0 z0_tape z0_tokens z0_hillReader z0_lawReader (a1 0) z0_rules (a2 0) z0_spare z0_draft z0_spareDiary z0_guess (a3 0) z0_imageHill z0_imageRules z0_imageDiary v0, bX3 y a1 u9, bX1 y a2 v2, bX8 y a3 a4 a5 t3.1, bPH y a4 t3.2.1, bPD y a5 t3.2.2]) F rfl rfl h8 (by rw [eu9]; rfl) dX11_mend_69 ?_
      refine a_aloadn (pc := 70) (j := 0) F dX11_mend_70 rfl rfl ?_
      refine a_get (pc := 71) (kb := 0) (j := 0) (f := 7) F iW_X11 rfl rfl rfl (by decide) (tl q2_63) (fun _ h => h) rfl dX11_mend_71 ?_
      obtain ⟨t10, ht10, hf⟩ := bd_some hf
      refine a_callVv (pc := 74) (bs' := [bX11 y a0 z0_tape z0_tokens z0_hillReader z0_lawReader (a1 0) z0_rules (a2 0) z0_spare z0_draft z0_spareDiary z0_guess (a3 0) z0_imageHill z0_imageRules z0_imageDiary v0, bX3 y a1 t10, bX1 y a2 v2, bX8 y a3 a4 a5 t3.1, bPH y a4 t3.2.1, bPD y a5 t3.2.2]) (kb := 1) (j := 0) F [1] (c_X3_weigh l D y ek n a1 _ _ ht10) (cwV 0 F.1.2.2.2.2 (gV q2_153 q2_154 q2_155 q1_3 q2_156) rfl rfl rfl (by decide +kernel) ⟨Nat.le_of_ble_eq_true rfl, Nat.le_of_ble_eq_true rfl⟩) rfl rfl rfl rfl (by decide) rfl rfl rfl rfl rfl rfl (Nat.le_of_ble_eq_true rfl) ⟨Nat.zero_le _, Nat.zero_le _⟩ dX11_mend_74 ?_
      refine a_iloadn (pc := 77) (j := 2) F dX11_mend_77 rfl rfl ?_
      obtain rfl := Sum.inl.inj (Option.some.inj hf)
      exact hret _ _ _ _ (Nat.zero_le _) (Nat.zero_le _) rfl dX11_mend_78
    · replace hf := it_pos h hf
      exact absurd hf (by simp)
  · replace hf := sm_inr hf
    exact absurd hf (by simp)
set_option maxHeartbeats 4000000 in
set_option maxRecDepth 100000 in
theorem x_X11_mend (l : Launch) (hlt : l.stackTraces = false) (D : va_G) (y : Nat → ClassId) (ek : EK) (n : Nat) (a0 : Nat → Nat) (a1 : Nat → Nat) (a2 : Nat → Nat) (a3 : Nat → Nat) (a4 : Nat → Nat → Nat) (a5 : Nat → Nat → Nat) (z0_tape : Nat) (z0_tokens : Nat) (z0_hillReader : Nat) (z0_lawReader : Nat) (z0_rules : Nat) (z0_spare : Nat) (z0_draft : Nat) (z0_spareDiary : Nat) (z0_guess : Nat) (z0_imageHill : Nat) (z0_imageRules : Nat) (z0_imageDiary : Nat) (v0 : St) (v1 : St) (v2 : St) (v3 : St) (v4 : Nat → St) (v5 : Nat → St) (x1 : Int32) (res : Nat × St × St × (Nat → St) × (Nat → St)) (hf : m_X11_mend n v0 v1 v2 v3 v4 v5 x1 = some (Sum.inr res)) : CX l yX11_mend wX11_mend { frames := 7, cells := 1, slots := 6, locals := 113 } D y ek [.ref (a0 0), .int x1] [bX11 y a0 z0_tape z0_tokens z0_hillReader z0_lawReader (a1 0) z0_rules (a2 0) z0_spare z0_draft z0_spareDiary z0_guess (a3 0) z0_imageHill z0_imageRules z0_imageDiary v0, bX3 y a1 v1, bX1 y a2 v2, bX8 y a3 a4 a5 v3, bPH y a4 v4, bPD y a5 v5] (eX.getD res.1 "") [bX11 y a0 z0_tape z0_tokens z0_hillReader z0_lawReader (a1 0) z0_rules (a2 0) z0_spare z0_draft z0_spareDiary z0_guess (a3 0) z0_imageHill z0_imageRules z0_imageDiary v0, bX3 y a1 res.2.1, bX1 y a2 v2, bX8 y a3 a4 a5 res.2.2.1, bPH y a4 res.2.2.2.1, bPD y a5 res.2.2.2.2] 1 6 := by
  unfold m_X11_mend at hf
  refine cx_of (cc := cX11_mend) (maxL := 3) hlt (by decide) rfl (Nat.le_of_ble_eq_true rfl) (Nat.le_refl 1) (Nat.le_refl 6) ?_
  intro p e s m below meth c Q A F hthr hout
  refine a_lv (lv' := [(0, .ref (a0 0)), (1, .int x1)]) rfl ?_
  refine a_aloadn (pc := 0) (j := 0) F dX11_mend_0 rfl rfl ?_
  refine a_iloadn (pc := 1) (j := 1) F dX11_mend_1 rfl rfl ?_
  obtain ⟨t1, ht1a, hf⟩ := bd_some hf
  rcases t1 with t1a | t1x
  · replace hf := sm_inl hf
    refine a_callVv (pc := 2) (bs' := [bX11 y a0 z0_tape z0_tokens z0_hillReader z0_lawReader (a1 0) z0_rules (a2 0) z0_spare z0_draft z0_spareDiary z0_guess (a3 0) z0_imageHill z0_imageRules z0_imageDiary v0, bX3 y a1 v1, bX1 y a2 v2, bX8 y a3 a4 a5 v3, bPH y a4 v4, bPD y a5 v5]) (kb := 0) (j := 0) F [0, 1] (c_X11_checkPlank l D y ek n a0 a1 z0_tape z0_tokens z0_hillReader z0_lawReader z0_rules (a2 0) z0_spare z0_draft z0_spareDiary z0_guess (a3 0) z0_imageHill z0_imageRules z0_imageDiary _ _ _ _ ht1a) (cwV 1 F.1.2.2.2.2 (gV q4_153 q4_155 qs_17 q1_1 q4_156) rfl rfl rfl (by decide +kernel) ⟨Nat.le_of_ble_eq_true rfl, Nat.le_of_ble_eq_true rfl⟩) rfl rfl rfl rfl (by decide) rfl rfl rfl rfl rfl rfl (Nat.le_of_ble_eq_true rfl) ⟨Nat.zero_le _, Nat.zero_le _⟩ dX11_mend_2 ?_
    refine a_aloadn (pc := 5) (j := 0) F dX11_mend_5 rfl rfl ?_
    refine a_get (pc := 6) (kb := 0) (j := 0) (f := 7) F iW_X11 rfl rfl rfl (by decide) (tl q2_63) (fun _ h => h) rfl dX11_mend_6 ?_
    refine a_get (pc := 9) (kb := 1) (j := 0) (f := 12) F iW_X3 rfl rfl rfl (by decide) (tl q1_100) (fun _ h => h) rfl dX11_mend_9 ?_
    refine a_iloadn (pc := 12) (j := 1) F dX11_mend_12 rfl rfl ?_
    obtain ⟨h2, hf⟩ := gd_some hf
    refine a_zald (pc := 13) (kb := 1) (j := 4) F rfl rfl h2 dX11_mend_13 ?_
    refine a_if_ne (pc := 14) (tgt := 25) F dX11_mend_14 (by decide) (fun h => ?_) (fun h => ?_)
    · replace hf := it_neg h hf
      refine a_aloadn (pc := 25) (j := 0) F dX11_mend_25 rfl rfl ?_
      refine a_get (pc := 26) (kb := 0) (j := 0) (f := 14) F iW_X11 rfl rfl rfl (by decide) (tl q2_70) (fun _ h => h) rfl dX11_mend_26 ?_
      refine a_aloadn (pc := 29) (j := 0) F dX11_mend_29 rfl rfl ?_
      refine a_get (pc := 30) (kb := 0) (j := 0) (f := 7) F iW_X11 rfl rfl rfl (by decide) (tl q2_63) (fun _ h => h) rfl dX11_mend_30 ?_
      refine a_aloadn (pc := 33) (j := 0) F dX11_mend_33 rfl rfl ?_
      refine a_get (pc := 34) (kb := 0) (j := 0) (f := 9) F iW_X11 rfl rfl rfl (by decide) (tl q2_65) (fun _ h => h) rfl dX11_mend_34 ?_
      obtain ⟨t3, ht3, hf⟩ := bd_some hf
      refine a_callVv (pc := 37) (bs' := [bX11 y a0 z0_tape z0_tokens z0_hillReader z0_lawReader (a1 0) z0_rules (a2 0) z0_spare z0_draft z0_spareDiary z0_guess (a3 0) z0_imageHill z0_imageRules z0_imageDiary v0, bX3 y a1 v1, bX1 y a2 v2, bX8 y a3 a4 a5 t3.1, bPH y a4 t3.2.1, bPD y a5 t3.2.2]) (kb := 3) (j := 0) F [3, 4, 5, 1, 2] (c_X8_remember l D y ek n a3 a4 a5 a1 a2 _ _ _ _ _ _ ht3) (cwV 2 F.1.2.2.2.2 (gV q2_137 q2_138 q2_139 q1_10 q2_140) rfl rfl rfl (by decide +kernel) ⟨Nat.le_of_ble_eq_true rfl, Nat.le_of_ble_eq_true rfl⟩) rfl rfl rfl rfl (by decide) rfl rfl rfl rfl rfl rfl (Nat.le_of_ble_eq_true rfl) ⟨Nat.zero_le _, Nat.zero_le _⟩ dX11_mend_37 ?_
      refine a_aloadn (pc := 40) (j := 0) F dX11_mend_40 rfl rfl ?_
      refine a_get (pc := 41) (kb := 0) (j := 0) (f := 7) F iW_X11 rfl rfl rfl (by decide) (tl q2_63) (fun _ h => h) rfl dX11_mend_41 ?_
      refine a_get (pc := 44) (kb := 1) (j := 0) (f := 10) F iW_X3 rfl rfl rfl (by decide) (tl q1_96) (fun _ h => h) rfl dX11_mend_44 ?_
      refine a_iloadn (pc := 47) (j := 1) F dX11_mend_47 rfl rfl ?_
      obtain ⟨h4, hf⟩ := gd_some hf
      refine a_iald (pc := 48) (kb := 1) (j := 2) F rfl rfl h4 dX11_mend_48 ?_
      obtain ⟨x2_5, ex2_5, hf⟩ := nm_some hf
      refine a_nmi ex2_5 ?_
      refine a_istoren (pc := 49) (lv' := [(0, .ref (a0 0)), (1, .int x1), (2, .int x2_5)]) F [1, 2, 0] dX11_mend_49 rfl (by decide) rfl ?_
      refine a_aloadn (pc := 50) (j := 0) F dX11_mend_50 rfl rfl ?_
      refine a_get (pc := 51) (kb := 0) (j := 0) (f := 7) F iW_X11 rfl rfl rfl (by decide) (tl q2_63) (fun _ h => h) rfl dX11_mend_51 ?_
      refine a_get (pc := 54) (kb := 1) (j := 0) (f := 12) F iW_X3 rfl rfl rfl (by decide) (tl q1_100) (fun _ h => h) rfl dX11_mend_54 ?_
      refine a_iloadn (pc := 57) (j := 1) F dX11_mend_57 rfl rfl ?_
      refine a_iconst (pc := 58) F dX11_mend_58 kc_0 ?_
      obtain ⟨h6, hf⟩ := gd_some hf
      obtain ⟨u7, eu7, hf⟩ := nm_some hf
      refine a_zast (pc := 59) (kb := 1) (j := 4) (bs' := [bX11 y a0 z0_tape z0_tokens z0_hillReader z0_lawReader (a1 0) z0_rules (a2 0) z0_spare z0_draft z0_spareDiary z0_guess (a3 0) z0_imageHill z0_imageRules z0_imageDiary v0, bX3 y a1 u7, bX1 y a2 v2, bX8 y a3 a4 a5 t3.1, bPH y a4 t3.2.1, bPD y a5 t3.2.2]) F rfl rfl h6 (by rw [eu7]; rfl) dX11_mend_59 ?_
      refine a_aloadn (pc := 60) (j := 0) F dX11_mend_60 rfl rfl ?_
      refine a_get (pc := 61) (kb := 0) (j := 0) (f := 7) F iW_X11 rfl rfl rfl (by decide) (tl q2_63) (fun _ h => h) rfl dX11_mend_61 ?_
      refine a_get (pc := 64) (kb := 1) (j := 0) (f := 10) F iW_X3 rfl rfl rfl (by decide) (tl q1_96) (fun _ h => h) rfl dX11_mend_64 ?_
      refine a_iloadn (pc := 67) (j := 1) F dX11_mend_67 rfl rfl ?_
      refine a_iconst (pc := 68) F dX11_mend_68 kc_0 ?_
      obtain ⟨h8, hf⟩ := gd_some hf
      obtain ⟨u9, eu9, hf⟩ := nm_some hf
      refine a_iast (pc := 69) (kb := 1) (j := 2) (bs' := [bX11 y a0 z0_tape z0_tokens z0_hillReader z0_lawReader (a1 0) z0_rules (a2 0) z0_spare z0_draft z0_spareDiary z0_guess (a3 0) z0_imageHill z0_imageRules z0_imageDiary v0, bX3 y a1 u9, bX1 y a2 v2, bX8 y a3 a4 a5 t3.1, bPH y a4 t3.2.1, bPD y a5 t3.2.2]) F rfl rfl h8 (by rw [eu9]; rfl) dX11_mend_69 ?_
      refine a_aloadn (pc := 70) (j := 0) F dX11_mend_70 rfl rfl ?_
      refine a_get (pc := 71) (kb := 0) (j := 0) (f := 7) F iW_X11 rfl rfl rfl (by decide) (tl q2_63) (fun _ h => h) rfl dX11_mend_71 ?_
      obtain ⟨t10, ht10, hf⟩ := bd_some hf
      refine a_callVv (pc := 74) (bs' := [bX11 y a0 z0_tape z0_tokens z0_hillReader z0_lawReader (a1 0) z0_rules (a2 0) z0_spare z0_draft z0_spareDiary z0_guess (a3 0) z0_imageHill z0_imageRules z0_imageDiary v0, bX3 y a1 t10, bX1 y a2 v2, bX8 y a3 a4 a5 t3.1, bPH y a4 t3.2.1, bPD y a5 t3.2.2]) (kb := 1) (j := 0) F [1] (c_X3_weigh l D y ek n a1 _ _ ht10) (cwV 0 F.1.2.2.2.2 (gV q2_153 q2_154 q2_155 q1_3 q2_156) rfl rfl rfl (by decide +kernel) ⟨Nat.le_of_ble_eq_true rfl, Nat.le_of_ble_eq_true rfl⟩) rfl rfl rfl rfl (by decide) rfl rfl rfl rfl rfl rfl (Nat.le_of_ble_eq_true rfl) ⟨Nat.zero_le _, Nat.zero_le _⟩ dX11_mend_74 ?_
      refine a_iloadn (pc := 77) (j := 2) F dX11_mend_77 rfl rfl ?_
      exact absurd hf (by simp)
    · replace hf := it_pos h hf
      obtain rfl := Sum.inr.inj (Option.some.inj hf)
      exact hthr 17 235 237 _ _ xw_4 dX11_mend_17 dX11_mend_20 dX11_mend_21 dX11_mend_24 (Nat.le_of_ble_eq_true rfl) (Nat.le_of_ble_eq_true rfl) (Nat.le_of_ble_eq_true rfl) (Nat.le_of_ble_eq_true rfl)
  · replace hf := sm_inr hf
    obtain rfl := Sum.inr.inj (Option.some.inj hf)
    exact a_callVx (pc := 2) (bs' := [bX11 y a0 z0_tape z0_tokens z0_hillReader z0_lawReader (a1 0) z0_rules (a2 0) z0_spare z0_draft z0_spareDiary z0_guess (a3 0) z0_imageHill z0_imageRules z0_imageDiary v0, bX3 y a1 v1, bX1 y a2 v2, bX8 y a3 a4 a5 v3, bPH y a4 v4, bPD y a5 v5]) (kb := 0) (j := 0) F [0, 1] (x_X11_checkPlank l hlt D y ek n a0 a1 z0_tape z0_tokens z0_hillReader z0_lawReader z0_rules (a2 0) z0_spare z0_draft z0_spareDiary z0_guess (a3 0) z0_imageHill z0_imageRules z0_imageDiary _ _ _ _ ht1a) (cwV 1 F.1.2.2.2.2 (gV q4_153 q4_155 qs_17 q1_1 q4_156) rfl rfl rfl (by decide +kernel) ⟨Nat.le_of_ble_eq_true rfl, Nat.le_of_ble_eq_true rfl⟩) rfl rfl rfl rfl (by decide) rfl rfl rfl rfl rfl rfl (Nat.le_of_ble_eq_true rfl) ⟨Nat.le_of_ble_eq_true rfl, Nat.le_of_ble_eq_true rfl⟩ dX11_mend_2 (fun H1 locs1 ls q9 ce h1 h2 h3 h4 h5 h6 h7 => hout H1 locs1 ls _ _ _ _ q9 ce h1 h2 h3 (Nat.le_of_ble_eq_true rfl) (Nat.le_of_ble_eq_true rfl) h5 h6 h7)

abbrev wX11_give : List Cond := Cond.code yX11_give cX11_give 4 (some .int) :: WALL
def m_X11_give (n : Nat) (v0 : St) (v1 : St) (v2 : St) (v3 : St) (v4 : Nat → St) (v5 : Nat → St) (x1 : Int32) (x2 : Int32) (x3 : Int32) : Option ((Int32 × St × St × (Nat → St) × (Nat → St)) ⊕ (Nat × St × St × (Nat → St) × (Nat → St))) :=
bd (m_X11_checkHouse n v0 v1 x1) (fun t1 => sm t1 (fun t1a =>
bd (m_X11_checkHouse n v0 v1 x2) (fun t2 => sm t2 (fun t2a =>
(if x1 = x2 then
some (Sum.inr (0, v1, v3, v4, v5))
else
(if ix x1 10 then bd (m_X11_checkNumber n x3 1 (v1 13 (x1).toNatClampNeg)) (fun t4 => sm t4 (fun t4a =>
bd (m_X8_remember n v3 v4 v5 v1 v2) (fun t5 =>
(if ix x1 10 then (if ix x1 10 then nm (su v1 13 (x1).toNatClampNeg ((v1 13 (x1).toNatClampNeg) - x3)) (fun u8 =>
(if ix x2 10 then (if ix x2 10 then nm (su u8 13 (x2).toNatClampNeg (x_min 9999 ((u8 13 (x2).toNatClampNeg) + x3))) (fun u11 =>
(if ix x2 10 then some (Sum.inl ((u11 13 (x2).toNatClampNeg), u11, t5.1, t5.2.1, t5.2.2)) else none)) else none) else none)) else none) else none))) (fun t4x => some (Sum.inr (t4x, v1, v3, v4, v5)))) else none))) (fun t2x => some (Sum.inr (t2x, v1, v3, v4, v5))))) (fun t1x => some (Sum.inr (t1x, v1, v3, v4, v5))))
set_option maxHeartbeats 4000000 in
set_option maxRecDepth 100000 in
theorem c_X11_give (l : Launch) (D : va_G) (y : Nat → ClassId) (ek : EK) (n : Nat) (a0 : Nat → Nat) (a1 : Nat → Nat) (a2 : Nat → Nat) (a3 : Nat → Nat) (a4 : Nat → Nat → Nat) (a5 : Nat → Nat → Nat) (z0_tape : Nat) (z0_tokens : Nat) (z0_hillReader : Nat) (z0_lawReader : Nat) (z0_rules : Nat) (z0_spare : Nat) (z0_draft : Nat) (z0_spareDiary : Nat) (z0_guess : Nat) (z0_imageHill : Nat) (z0_imageRules : Nat) (z0_imageDiary : Nat) (v0 : St) (v1 : St) (v2 : St) (v3 : St) (v4 : Nat → St) (v5 : Nat → St) (x1 : Int32) (x2 : Int32) (x3 : Int32) (res : Int32 × St × St × (Nat → St) × (Nat → St)) (hf : m_X11_give n v0 v1 v2 v3 v4 v5 x1 x2 x3 = some (Sum.inl res)) : CI l yX11_give wX11_give { frames := 7, cells := 0, slots := 0, locals := 113 } D y ek [.ref (a0 0), .int x1, .int x2, .int x3] [bX11 y a0 z0_tape z0_tokens z0_hillReader z0_lawReader (a1 0) z0_rules (a2 0) z0_spare z0_draft z0_spareDiary z0_guess (a3 0) z0_imageHill z0_imageRules z0_imageDiary v0, bX3 y a1 v1, bX1 y a2 v2, bX8 y a3 a4 a5 v3, bPH y a4 v4, bPD y a5 v5] (res.1) [bX11 y a0 z0_tape z0_tokens z0_hillReader z0_lawReader (a1 0) z0_rules (a2 0) z0_spare z0_draft z0_spareDiary z0_guess (a3 0) z0_imageHill z0_imageRules z0_imageDiary v0, bX3 y a1 res.2.1, bX1 y a2 v2, bX8 y a3 a4 a5 res.2.2.1, bPH y a4 res.2.2.2.1, bPD y a5 res.2.2.2.2] 0 0 := by
  unfold m_X11_give at hf
  refine ci_of (cc := cX11_give) (maxL := 4) (by decide) rfl rfl (Nat.le_of_ble_eq_true rfl) ?_
  intro p e s m below meth c Q A F hret
  refine a_lv (lv' := [(0, .ref (a0 0)), (1, .int x1), (2, .int x2), (3, .int x3)]) rfl ?_
  refine a_aloadn (pc := 0) (j := 0) F dX11_give_0 rfl rfl ?_
  refine a_iloadn (pc := 1) (j := 1) F dX11_give_1 rfl rfl ?_
  obtain ⟨t1, ht1a, hf⟩ := bd_some hf
  rcases t1 with t1a | t1x
  · replace hf := sm_inl hf
    refine a_callVv (pc := 2) (bs' := [bX11 y a0 z0_tape z0_tokens z0_hillReader z0_lawReader (a1 0) z0_rules (a2 0) z0_spare z0_draft z0_spareDiary z0_guess (a3 0) z0_imageHill z0_imageRules z0_imageDiary v0, bX3 y a1 v1, bX1 y a2 v2, bX8 y a3 a4 a5 v3, bPH y a4 v4, bPD y a5 v5]) (kb := 0) (j := 0) F [0, 1] (c_X11_checkHouse l D y ek n a0 a1 z0_tape z0_tokens z0_hillReader z0_lawReader z0_rules (a2 0) z0_spare z0_draft z0_spareDiary z0_guess (a3 0) z0_imageHill z0_imageRules z0_imageDiary _ _ _ _ ht1a) (cwV 1 F.1.2.2.2.2 (gV q4_199 q4_201 qs_18 q1_1 q4_202) rfl rfl rfl (by decide +kernel) ⟨Nat.le_of_ble_eq_true rfl, Nat.le_of_ble_eq_true rfl⟩) rfl rfl rfl rfl (by decide) rfl rfl rfl rfl rfl rfl (Nat.le_of_ble_eq_true rfl) ⟨Nat.zero_le _, Nat.zero_le _⟩ dX11_give_2 ?_
    refine a_aloadn (pc := 5) (j := 0) F dX11_give_5 rfl rfl ?_
    refine a_iloadn (pc := 6) (j := 2) F dX11_give_6 rfl rfl ?_
    obtain ⟨t2, ht2a, hf⟩ := bd_some hf
    rcases t2 with t2a | t2x
    · replace hf := sm_inl hf
      refine a_callVv (pc := 7) (bs' := [bX11 y a0 z0_tape z0_tokens z0_hillReader z0_lawReader (a1 0) z0_rules (a2 0) z0_spare z0_draft z0_spareDiary z0_guess (a3 0) z0_imageHill z0_imageRules z0_imageDiary v0, bX3 y a1 v1, bX1 y a2 v2, bX8 y a3 a4 a5 v3, bPH y a4 v4, bPD y a5 v5]) (kb := 0) (j := 0) F [0, 1] (c_X11_checkHouse l D y ek n a0 a1 z0_tape z0_tokens z0_hillReader z0_lawReader z0_rules (a2 0) z0_spare z0_draft z0_spareDiary z0_guess (a3 0) z0_imageHill z0_imageRules z0_imageDiary _ _ _ _ ht2a) (cwV 1 F.1.2.2.2.2 (gV q4_199 q4_201 qs_18 q1_1 q4_202) rfl rfl rfl (by decide +kernel) ⟨Nat.le_of_ble_eq_true rfl, Nat.le_of_ble_eq_true rfl⟩) rfl rfl rfl rfl (by decide) rfl rfl rfl rfl rfl rfl (Nat.le_of_ble_eq_true rfl) ⟨Nat.zero_le _, Nat.zero_le _⟩ dX11_give_7 ?_
      refine a_iloadn (pc := 10) (j := 1) F dX11_give_10 rfl rfl ?_
      refine a_iloadn (pc := 11) (j := 2) F dX11_give_11 rfl rfl ?_
      refine a_icmp_ne (pc := 12) (tgt := 23) F dX11_give_12 (by decide) (fun h => ?_) (fun h => ?_)
      · replace hf := it_neg h hf
        refine a_iloadn (pc := 23) (j := 3) F dX11_give_23 rfl rfl ?_
        refine a_iconst (pc := 24) F dX11_give_24 kc_1 ?_
        refine a_aloadn (pc := 25) (j := 0) F dX11_give_25 rfl rfl ?_
        refine a_get (pc := 26) (kb := 0) (j := 0) (f := 7) F iW_X11 rfl rfl rfl (by decide) (tl q2_63) (fun _ h => h) rfl dX11_give_26 ?_
        refine a_get (pc := 29) (kb := 1) (j := 0) (f := 13) F iW_X3 rfl rfl rfl (by decide) (tl q1_103) (fun _ h => h) rfl dX11_give_29 ?_
        refine a_iloadn (pc := 32) (j := 1) F dX11_give_32 rfl rfl ?_
        obtain ⟨h3, hf⟩ := gd_some hf
        refine a_iald (pc := 33) (kb := 1) (j := 5) F rfl rfl h3 dX11_give_33 ?_
        obtain ⟨t4, ht4a, hf⟩ := bd_some hf
        rcases t4 with t4a | t4x
        · replace hf := sm_inl hf
          refine a_callSv (pc := 34) (bs' := [bX11 y a0 z0_tape z0_tokens z0_hillReader z0_lawReader (a1 0) z0_rules (a2 0) z0_spare z0_draft z0_spareDiary z0_guess (a3 0) z0_imageHill z0_imageRules z0_imageDiary v0, bX3 y a1 v1, bX1 y a2 v2, bX8 y a3 a4 a5 v3, bPH y a4 v4, bPD y a5 v5]) F [] (c_X11_checkNumber l D y ek n  _ _ _ _ ht4a) (va_cwS 3 F.1.2.2.2.2 (gS q5_19 q5_20 q1_1 q5_21) rfl rfl rfl (by decide +kernel) ⟨Nat.le_of_ble_eq_true rfl, Nat.le_of_ble_eq_true rfl⟩) (by decide) rfl rfl rfl rfl rfl rfl (Nat.le_of_ble_eq_true rfl) ⟨Nat.zero_le _, Nat.zero_le _⟩ dX11_give_34 ?_
          refine a_aloadn (pc := 37) (j := 0) F dX11_give_37 rfl rfl ?_
          refine a_get (pc := 38) (kb := 0) (j := 0) (f := 14) F iW_X11 rfl rfl rfl (by decide) (tl q2_70) (fun _ h => h) rfl dX11_give_38 ?_
          refine a_aloadn (pc := 41) (j := 0) F dX11_give_41 rfl rfl ?_
          refine a_get (pc := 42) (kb := 0) (j := 0) (f := 7) F iW_X11 rfl rfl rfl (by decide) (tl q2_63) (fun _ h => h) rfl dX11_give_42 ?_
          refine a_aloadn (pc := 45) (j := 0) F dX11_give_45 rfl rfl ?_
          refine a_get (pc := 46) (kb := 0) (j := 0) (f := 9) F iW_X11 rfl rfl rfl (by decide) (tl q2_65) (fun _ h => h) rfl dX11_give_46 ?_
          obtain ⟨t5, ht5, hf⟩ := bd_some hf
          refine a_callVv (pc := 49) (bs' := [bX11 y a0 z0_tape z0_tokens z0_hillReader z0_lawReader (a1 0) z0_rules (a2 0) z0_spare z0_draft z0_spareDiary z0_guess (a3 0) z0_imageHill z0_imageRules z0_imageDiary v0, bX3 y a1 v1, bX1 y a2 v2, bX8 y a3 a4 a5 t5.1, bPH y a4 t5.2.1, bPD y a5 t5.2.2]) (kb := 3) (j := 0) F [3, 4, 5, 1, 2] (c_X8_remember l D y ek n a3 a4 a5 a1 a2 _ _ _ _ _ _ ht5) (cwV 2 F.1.2.2.2.2 (gV q2_137 q2_138 q2_139 q1_10 q2_140) rfl rfl rfl (by decide +kernel) ⟨Nat.le_of_ble_eq_true rfl, Nat.le_of_ble_eq_true rfl⟩) rfl rfl rfl rfl (by decide) rfl rfl rfl rfl rfl rfl (Nat.le_of_ble_eq_true rfl) ⟨Nat.zero_le _, Nat.zero_le _⟩ dX11_give_49 ?_
          refine a_aloadn (pc := 52) (j := 0) F dX11_give_52 rfl rfl ?_
          refine a_get (pc := 53) (kb := 0) (j := 0) (f := 7) F iW_X11 rfl rfl rfl (by decide) (tl q2_63) (fun _ h => h) rfl dX11_give_53 ?_
          refine a_get (pc := 56) (kb := 1) (j := 0) (f := 13) F iW_X3 rfl rfl rfl (by decide) (tl q1_103) (fun _ h => h) rfl dX11_give_56 ?_
          refine a_iloadn (pc := 59) (j := 1) F dX11_give_59 rfl rfl ?_
          refine a_dup2 (pc := 60) F dX11_give_60 rfl rfl ?_
          obtain ⟨h6, hf⟩ := gd_some hf
          refine a_iald (pc := 61) (kb := 1) (j := 5) F rfl rfl h6 dX11_give_61 ?_
          refine a_iloadn (pc := 62) (j := 3) F dX11_give_62 rfl rfl ?_
          refine a_isub (pc := 63) F dX11_give_63 ?_
          obtain ⟨h7, hf⟩ := gd_some hf
          obtain ⟨u8, eu8, hf⟩ := nm_some hf
          refine a_iast (pc := 64) (kb := 1) (j := 5) (bs' := [bX11 y a0 z0_tape z0_tokens z0_hillReader z0_lawReader (a1 0) z0_rules (a2 0) z0_spare z0_draft z0_spareDiary z0_guess (a3 0) z0_imageHill z0_imageRules z0_imageDiary v0, bX3 y a1 u8, bX1 y a2 v2, bX8 y a3 a4 a5 t5.1, bPH y a4 t5.2.1, bPD y a5 t5.2.2]) F rfl rfl h7 (by rw [eu8]; rfl) dX11_give_64 ?_
          refine a_aloadn (pc := 65) (j := 0) F dX11_give_65 rfl rfl ?_
          refine a_get (pc := 66) (kb := 0) (j := 0) (f := 7) F iW_X11 rfl rfl rfl (by decide) (tl q2_63) (fun _ h => h) rfl dX11_give_66 ?_
          refine a_get (pc := 69) (kb := 1) (j := 0) (f := 13) F iW_X3 rfl rfl rfl (by decide) (tl q1_103) (fun _ h => h) rfl dX11_give_69 ?_
          refine a_iloadn (pc := 72) (j := 2) F dX11_give_72 rfl rfl ?_
          refine a_sipush (pc := 73) F dX11_give_73 ks_9999 ?_
          refine a_aloadn (pc := 76) (j := 0) F dX11_give_76 rfl rfl ?_
          refine a_get (pc := 77) (kb := 0) (j := 0) (f := 7) F iW_X11 rfl rfl rfl (by decide) (tl q2_63) (fun _ h => h) rfl dX11_give_77 ?_
          refine a_get (pc := 80) (kb := 1) (j := 0) (f := 13) F iW_X3 rfl rfl rfl (by decide) (tl q1_103) (fun _ h => h) rfl dX11_give_80 ?_
          refine a_iloadn (pc := 83) (j := 2) F dX11_give_83 rfl rfl ?_
          obtain ⟨h9, hf⟩ := gd_some hf
          refine a_iald (pc := 84) (kb := 1) (j := 5) F rfl rfl h9 dX11_give_84 ?_
          refine a_iloadn (pc := 85) (j := 3) F dX11_give_85 rfl rfl ?_
          refine a_iadd (pc := 86) F dX11_give_86 ?_
          refine a_mmin (pc := 87) F (tl q5_43) (tl q2_170) (tl q1_22) (tl q_math_min) (Nat.le_of_ble_eq_true rfl) (Nat.le_of_ble_eq_true rfl) (Nat.zero_le _) (Nat.zero_le _) dX11_give_87 ?_
          obtain ⟨h10, hf⟩ := gd_some hf
          obtain ⟨u11, eu11, hf⟩ := nm_some hf
          refine a_iast (pc := 90) (kb := 1) (j := 5) (bs' := [bX11 y a0 z0_tape z0_tokens z0_hillReader z0_lawReader (a1 0) z0_rules (a2 0) z0_spare z0_draft z0_spareDiary z0_guess (a3 0) z0_imageHill z0_imageRules z0_imageDiary v0, bX3 y a1 u11, bX1 y a2 v2, bX8 y a3 a4 a5 t5.1, bPH y a4 t5.2.1, bPD y a5 t5.2.2]) F rfl rfl h10 (by rw [eu11]; rfl) dX11_give_90 ?_
          refine a_aloadn (pc := 91) (j := 0) F dX11_give_91 rfl rfl ?_
          refine a_get (pc := 92) (kb := 0) (j := 0) (f := 7) F iW_X11 rfl rfl rfl (by decide) (tl q2_63) (fun _ h => h) rfl dX11_give_92 ?_
          refine a_get (pc := 95) (kb := 1) (j := 0) (f := 13) F iW_X3 rfl rfl rfl (by decide) (tl q1_103) (fun _ h => h) rfl dX11_give_95 ?_
          refine a_iloadn (pc := 98) (j := 2) F dX11_give_98 rfl rfl ?_
          obtain ⟨h12, hf⟩ := gd_some hf
          refine a_iald (pc := 99) (kb := 1) (j := 5) F rfl rfl h12 dX11_give_99 ?_
          obtain rfl := Sum.inl.inj (Option.some.inj hf)
          exact hret _ _ _ _ (Nat.zero_le _) (Nat.zero_le _) rfl dX11_give_100
        · replace hf := sm_inr hf
          exact absurd hf (by simp)
      · replace hf := it_pos h hf
        exact absurd hf (by simp)
    · replace hf := sm_inr hf
      exact absurd hf (by simp)
  · replace hf := sm_inr hf
    exact absurd hf (by simp)
set_option maxHeartbeats 4000000 in
set_option maxRecDepth 100000 in
theorem x_X11_give (l : Launch) (hlt : l.stackTraces = false) (D : va_G) (y : Nat → ClassId) (ek : EK) (n : Nat) (a0 : Nat → Nat) (a1 : Nat → Nat) (a2 : Nat → Nat) (a3 : Nat → Nat) (a4 : Nat → Nat → Nat) (a5 : Nat → Nat → Nat) (z0_tape : Nat) (z0_tokens : Nat) (z0_hillReader : Nat) (z0_lawReader : Nat) (z0_rules : Nat) (z0_spare : Nat) (z0_draft : Nat) (z0_spareDiary : Nat) (z0_guess : Nat) (z0_imageHill : Nat) (z0_imageRules : Nat) (z0_imageDiary : Nat) (v0 : St) (v1 : St) (v2 : St) (v3 : St) (v4 : Nat → St) (v5 : Nat → St) (x1 : Int32) (x2 : Int32) (x3 : Int32) (res : Nat × St × St × (Nat → St) × (Nat → St)) (hf : m_X11_give n v0 v1 v2 v3 v4 v5 x1 x2 x3 = some (Sum.inr res)) : CX l yX11_give wX11_give { frames := 7, cells := 1, slots := 6, locals := 113 } D y ek [.ref (a0 0), .int x1, .int x2, .int x3] [bX11 y a0 z0_tape z0_tokens z0_hillReader z0_lawReader (a1 0) z0_rules (a2 0) z0_spare z0_draft z0_spareDiary z0_guess (a3 0) z0_imageHill z0_imageRules z0_imageDiary v0, bX3 y a1 v1, bX1 y a2 v2, bX8 y a3 a4 a5 v3, bPH y a4 v4, bPD y a5 v5] (eX.getD res.1 "") [bX11 y a0 z0_tape z0_tokens z0_hillReader z0_lawReader (a1 0) z0_rules (a2 0) z0_spare z0_draft z0_spareDiary z0_guess (a3 0) z0_imageHill z0_imageRules z0_imageDiary v0, bX3 y a1 res.2.1, bX1 y a2 v2, bX8 y a3 a4 a5 res.2.2.1, bPH y a4 res.2.2.2.1, bPD y a5 res.2.2.2.2] 1 6 := by
  unfold m_X11_give at hf
  refine cx_of (cc := cX11_give) (maxL := 4) hlt (by decide) rfl (Nat.le_of_ble_eq_true rfl) (Nat.le_refl 1) (Nat.le_refl 6) ?_
  intro p e s m below meth c Q A F hthr hout
  refine a_lv (lv' := [(0, .ref (a0 0)), (1, .int x1), (2, .int x2), (3, .int x3)]) rfl ?_
  refine a_aloadn (pc := 0) (j := 0) F dX11_give_0 rfl rfl ?_
  refine a_iloadn (pc := 1) (j := 1) F dX11_give_1 rfl rfl ?_
  obtain ⟨t1, ht1a, hf⟩ := bd_some hf
  rcases t1 with t1a | t1x
  · replace hf := sm_inl hf
    refine a_callVv (pc := 2) (bs' := [bX11 y a0 z0_tape z0_tokens z0_hillReader z0_lawReader (a1 0) z0_rules (a2 0) z0_spare z0_draft z0_spareDiary z0_guess (a3 0) z0_imageHill z0_imageRules z0_imageDiary v0, bX3 y a1 v1, bX1 y a2 v2, bX8 y a3 a4 a5 v3, bPH y a4 v4, bPD y a5 v5]) (kb := 0) (j := 0) F [0, 1] (c_X11_checkHouse l D y ek n a0 a1 z0_tape z0_tokens z0_hillReader z0_lawReader z0_rules (a2 0) z0_spare z0_draft z0_spareDiary z0_guess (a3 0) z0_imageHill z0_imageRules z0_imageDiary _ _ _ _ ht1a) (cwV 1 F.1.2.2.2.2 (gV q4_199 q4_201 qs_18 q1_1 q4_202) rfl rfl rfl (by decide +kernel) ⟨Nat.le_of_ble_eq_true rfl, Nat.le_of_ble_eq_true rfl⟩) rfl rfl rfl rfl (by decide) rfl rfl rfl rfl rfl rfl (Nat.le_of_ble_eq_true rfl) ⟨Nat.zero_le _, Nat.zero_le _⟩ dX11_give_2 ?_
    refine a_aloadn (pc := 5) (j := 0) F dX11_give_5 rfl rfl ?_
    refine a_iloadn (pc := 6) (j := 2) F dX11_give_6 rfl rfl ?_
    obtain ⟨t2, ht2a, hf⟩ := bd_some hf
    rcases t2 with t2a | t2x
    · replace hf := sm_inl hf
      refine a_callVv (pc := 7) (bs' := [bX11 y a0 z0_tape z0_tokens z0_hillReader z0_lawReader (a1 0) z0_rules (a2 0) z0_spare z0_draft z0_spareDiary z0_guess (a3 0) z0_imageHill z0_imageRules z0_imageDiary v0, bX3 y a1 v1, bX1 y a2 v2, bX8 y a3 a4 a5 v3, bPH y a4 v4, bPD y a5 v5]) (kb := 0) (j := 0) F [0, 1] (c_X11_checkHouse l D y ek n a0 a1 z0_tape z0_tokens z0_hillReader z0_lawReader z0_rules (a2 0) z0_spare z0_draft z0_spareDiary z0_guess (a3 0) z0_imageHill z0_imageRules z0_imageDiary _ _ _ _ ht2a) (cwV 1 F.1.2.2.2.2 (gV q4_199 q4_201 qs_18 q1_1 q4_202) rfl rfl rfl (by decide +kernel) ⟨Nat.le_of_ble_eq_true rfl, Nat.le_of_ble_eq_true rfl⟩) rfl rfl rfl rfl (by decide) rfl rfl rfl rfl rfl rfl (Nat.le_of_ble_eq_true rfl) ⟨Nat.zero_le _, Nat.zero_le _⟩ dX11_give_7 ?_
      refine a_iloadn (pc := 10) (j := 1) F dX11_give_10 rfl rfl ?_
      refine a_iloadn (pc := 11) (j := 2) F dX11_give_11 rfl rfl ?_
      refine a_icmp_ne (pc := 12) (tgt := 23) F dX11_give_12 (by decide) (fun h => ?_) (fun h => ?_)
      · replace hf := it_neg h hf
        refine a_iloadn (pc := 23) (j := 3) F dX11_give_23 rfl rfl ?_
        refine a_iconst (pc := 24) F dX11_give_24 kc_1 ?_
        refine a_aloadn (pc := 25) (j := 0) F dX11_give_25 rfl rfl ?_
        refine a_get (pc := 26) (kb := 0) (j := 0) (f := 7) F iW_X11 rfl rfl rfl (by decide) (tl q2_63) (fun _ h => h) rfl dX11_give_26 ?_
        refine a_get (pc := 29) (kb := 1) (j := 0) (f := 13) F iW_X3 rfl rfl rfl (by decide) (tl q1_103) (fun _ h => h) rfl dX11_give_29 ?_
        refine a_iloadn (pc := 32) (j := 1) F dX11_give_32 rfl rfl ?_
        obtain ⟨h3, hf⟩ := gd_some hf
        refine a_iald (pc := 33) (kb := 1) (j := 5) F rfl rfl h3 dX11_give_33 ?_
        obtain ⟨t4, ht4a, hf⟩ := bd_some hf
        rcases t4 with t4a | t4x
        · replace hf := sm_inl hf
          refine a_callSv (pc := 34) (bs' := [bX11 y a0 z0_tape z0_tokens z0_hillReader z0_lawReader (a1 0) z0_rules (a2 0) z0_spare z0_draft z0_spareDiary z0_guess (a3 0) z0_imageHill z0_imageRules z0_imageDiary v0, bX3 y a1 v1, bX1 y a2 v2, bX8 y a3 a4 a5 v3, bPH y a4 v4, bPD y a5 v5]) F [] (c_X11_checkNumber l D y ek n  _ _ _ _ ht4a) (va_cwS 3 F.1.2.2.2.2 (gS q5_19 q5_20 q1_1 q5_21) rfl rfl rfl (by decide +kernel) ⟨Nat.le_of_ble_eq_true rfl, Nat.le_of_ble_eq_true rfl⟩) (by decide) rfl rfl rfl rfl rfl rfl (Nat.le_of_ble_eq_true rfl) ⟨Nat.zero_le _, Nat.zero_le _⟩ dX11_give_34 ?_
          refine a_aloadn (pc := 37) (j := 0) F dX11_give_37 rfl rfl ?_
          refine a_get (pc := 38) (kb := 0) (j := 0) (f := 14) F iW_X11 rfl rfl rfl (by decide) (tl q2_70) (fun _ h => h) rfl dX11_give_38 ?_
          refine a_aloadn (pc := 41) (j := 0) F dX11_give_41 rfl rfl ?_
          refine a_get (pc := 42) (kb := 0) (j := 0) (f := 7) F iW_X11 rfl rfl rfl (by decide) (tl q2_63) (fun _ h => h) rfl dX11_give_42 ?_
          refine a_aloadn (pc := 45) (j := 0) F dX11_give_45 rfl rfl ?_
          refine a_get (pc := 46) (kb := 0) (j := 0) (f := 9) F iW_X11 rfl rfl rfl (by decide) (tl q2_65) (fun _ h => h) rfl dX11_give_46 ?_
          obtain ⟨t5, ht5, hf⟩ := bd_some hf
          refine a_callVv (pc := 49) (bs' := [bX11 y a0 z0_tape z0_tokens z0_hillReader z0_lawReader (a1 0) z0_rules (a2 0) z0_spare z0_draft z0_spareDiary z0_guess (a3 0) z0_imageHill z0_imageRules z0_imageDiary v0, bX3 y a1 v1, bX1 y a2 v2, bX8 y a3 a4 a5 t5.1, bPH y a4 t5.2.1, bPD y a5 t5.2.2]) (kb := 3) (j := 0) F [3, 4, 5, 1, 2] (c_X8_remember l D y ek n a3 a4 a5 a1 a2 _ _ _ _ _ _ ht5) (cwV 2 F.1.2.2.2.2 (gV q2_137 q2_138 q2_139 q1_10 q2_140) rfl rfl rfl (by decide +kernel) ⟨Nat.le_of_ble_eq_true rfl, Nat.le_of_ble_eq_true rfl⟩) rfl rfl rfl rfl (by decide) rfl rfl rfl rfl rfl rfl (Nat.le_of_ble_eq_true rfl) ⟨Nat.zero_le _, Nat.zero_le _⟩ dX11_give_49 ?_
          refine a_aloadn (pc := 52) (j := 0) F dX11_give_52 rfl rfl ?_
          refine a_get (pc := 53) (kb := 0) (j := 0) (f := 7) F iW_X11 rfl rfl rfl (by decide) (tl q2_63) (fun _ h => h) rfl dX11_give_53 ?_
          refine a_get (pc := 56) (kb := 1) (j := 0) (f := 13) F iW_X3 rfl rfl rfl (by decide) (tl q1_103) (fun _ h => h) rfl dX11_give_56 ?_
          refine a_iloadn (pc := 59) (j := 1) F dX11_give_59 rfl rfl ?_
          refine a_dup2 (pc := 60) F dX11_give_60 rfl rfl ?_
          obtain ⟨h6, hf⟩ := gd_some hf
          refine a_iald (pc := 61) (kb := 1) (j := 5) F rfl rfl h6 dX11_give_61 ?_
          refine a_iloadn (pc := 62) (j := 3) F dX11_give_62 rfl rfl ?_
          refine a_isub (pc := 63) F dX11_give_63 ?_
          obtain ⟨h7, hf⟩ := gd_some hf
          obtain ⟨u8, eu8, hf⟩ := nm_some hf
          refine a_iast (pc := 64) (kb := 1) (j := 5) (bs' := [bX11 y a0 z0_tape z0_tokens z0_hillReader z0_lawReader (a1 0) z0_rules (a2 0) z0_spare z0_draft z0_spareDiary z0_guess (a3 0) z0_imageHill z0_imageRules z0_imageDiary v0, bX3 y a1 u8, bX1 y a2 v2, bX8 y a3 a4 a5 t5.1, bPH y a4 t5.2.1, bPD y a5 t5.2.2]) F rfl rfl h7 (by rw [eu8]; rfl) dX11_give_64 ?_
          refine a_aloadn (pc := 65) (j := 0) F dX11_give_65 rfl rfl ?_
          refine a_get (pc := 66) (kb := 0) (j := 0) (f := 7) F iW_X11 rfl rfl rfl (by decide) (tl q2_63) (fun _ h => h) rfl dX11_give_66 ?_
          refine a_get (pc := 69) (kb := 1) (j := 0) (f := 13) F iW_X3 rfl rfl rfl (by decide) (tl q1_103) (fun _ h => h) rfl dX11_give_69 ?_
          refine a_iloadn (pc := 72) (j := 2) F dX11_give_72 rfl rfl ?_
          refine a_sipush (pc := 73) F dX11_give_73 ks_9999 ?_
          refine a_aloadn (pc := 76) (j := 0) F dX11_give_76 rfl rfl ?_
          refine a_get (pc := 77) (kb := 0) (j := 0) (f := 7) F iW_X11 rfl rfl rfl (by decide) (tl q2_63) (fun _ h => h) rfl dX11_give_77 ?_
          refine a_get (pc := 80) (kb := 1) (j := 0) (f := 13) F iW_X3 rfl rfl rfl (by decide) (tl q1_103) (fun _ h => h) rfl dX11_give_80 ?_
          refine a_iloadn (pc := 83) (j := 2) F dX11_give_83 rfl rfl ?_
          obtain ⟨h9, hf⟩ := gd_some hf
          refine a_iald (pc := 84) (kb := 1) (j := 5) F rfl rfl h9 dX11_give_84 ?_
          refine a_iloadn (pc := 85) (j := 3) F dX11_give_85 rfl rfl ?_
          refine a_iadd (pc := 86) F dX11_give_86 ?_
          refine a_mmin (pc := 87) F (tl q5_43) (tl q2_170) (tl q1_22) (tl q_math_min) (Nat.le_of_ble_eq_true rfl) (Nat.le_of_ble_eq_true rfl) (Nat.zero_le _) (Nat.zero_le _) dX11_give_87 ?_
          obtain ⟨h10, hf⟩ := gd_some hf
          obtain ⟨u11, eu11, hf⟩ := nm_some hf
          refine a_iast (pc := 90) (kb := 1) (j := 5) (bs' := [bX11 y a0 z0_tape z0_tokens z0_hillReader z0_lawReader (a1 0) z0_rules (a2 0) z0_spare z0_draft z0_spareDiary z0_guess (a3 0) z0_imageHill z0_imageRules z0_imageDiary v0, bX3 y a1 u11, bX1 y a2 v2, bX8 y a3 a4 a5 t5.1, bPH y a4 t5.2.1, bPD y a5 t5.2.2]) F rfl rfl h10 (by rw [eu11]; rfl) dX11_give_90 ?_
          refine a_aloadn (pc := 91) (j := 0) F dX11_give_91 rfl rfl ?_
          refine a_get (pc := 92) (kb := 0) (j := 0) (f := 7) F iW_X11 rfl rfl rfl (by decide) (tl q2_63) (fun _ h => h) rfl dX11_give_92 ?_
          refine a_get (pc := 95) (kb := 1) (j := 0) (f := 13) F iW_X3 rfl rfl rfl (by decide) (tl q1_103) (fun _ h => h) rfl dX11_give_95 ?_
          refine a_iloadn (pc := 98) (j := 2) F dX11_give_98 rfl rfl ?_
          obtain ⟨h12, hf⟩ := gd_some hf
          refine a_iald (pc := 99) (kb := 1) (j := 5) F rfl rfl h12 dX11_give_99 ?_
          exact absurd hf (by simp)
        · replace hf := sm_inr hf
          obtain rfl := Sum.inr.inj (Option.some.inj hf)
          exact a_callSx (pc := 34) (bs' := [bX11 y a0 z0_tape z0_tokens z0_hillReader z0_lawReader (a1 0) z0_rules (a2 0) z0_spare z0_draft z0_spareDiary z0_guess (a3 0) z0_imageHill z0_imageRules z0_imageDiary v0, bX3 y a1 v1, bX1 y a2 v2, bX8 y a3 a4 a5 v3, bPH y a4 v4, bPD y a5 v5]) F [] (x_X11_checkNumber l hlt D y ek n  _ _ _ _ ht4a) (va_cwS 3 F.1.2.2.2.2 (gS q5_19 q5_20 q1_1 q5_21) rfl rfl rfl (by decide +kernel) ⟨Nat.le_of_ble_eq_true rfl, Nat.le_of_ble_eq_true rfl⟩) (by decide) rfl rfl rfl rfl rfl rfl (Nat.le_of_ble_eq_true rfl) ⟨Nat.le_of_ble_eq_true rfl, Nat.le_of_ble_eq_true rfl⟩ dX11_give_34 (fun H1 locs1 ls q9 ce h1 h2 h3 h4 h5 h6 h7 => hout H1 locs1 ls _ _ _ _ q9 ce h1 h2 h3 (Nat.le_of_ble_eq_true rfl) (Nat.le_of_ble_eq_true rfl) h5 h6 h7)
      · replace hf := it_pos h hf
        obtain rfl := Sum.inr.inj (Option.some.inj hf)
        exact hthr 15 127 129 _ _ xw_0 dX11_give_15 dX11_give_18 dX11_give_19 dX11_give_22 (Nat.le_of_ble_eq_true rfl) (Nat.le_of_ble_eq_true rfl) (Nat.le_of_ble_eq_true rfl) (Nat.le_of_ble_eq_true rfl)
    · replace hf := sm_inr hf
      obtain rfl := Sum.inr.inj (Option.some.inj hf)
      exact a_callVx (pc := 7) (bs' := [bX11 y a0 z0_tape z0_tokens z0_hillReader z0_lawReader (a1 0) z0_rules (a2 0) z0_spare z0_draft z0_spareDiary z0_guess (a3 0) z0_imageHill z0_imageRules z0_imageDiary v0, bX3 y a1 v1, bX1 y a2 v2, bX8 y a3 a4 a5 v3, bPH y a4 v4, bPD y a5 v5]) (kb := 0) (j := 0) F [0, 1] (x_X11_checkHouse l hlt D y ek n a0 a1 z0_tape z0_tokens z0_hillReader z0_lawReader z0_rules (a2 0) z0_spare z0_draft z0_spareDiary z0_guess (a3 0) z0_imageHill z0_imageRules z0_imageDiary _ _ _ _ ht2a) (cwV 1 F.1.2.2.2.2 (gV q4_199 q4_201 qs_18 q1_1 q4_202) rfl rfl rfl (by decide +kernel) ⟨Nat.le_of_ble_eq_true rfl, Nat.le_of_ble_eq_true rfl⟩) rfl rfl rfl rfl (by decide) rfl rfl rfl rfl rfl rfl (Nat.le_of_ble_eq_true rfl) ⟨Nat.le_of_ble_eq_true rfl, Nat.le_of_ble_eq_true rfl⟩ dX11_give_7 (fun H1 locs1 ls q9 ce h1 h2 h3 h4 h5 h6 h7 => hout H1 locs1 ls _ _ _ _ q9 ce h1 h2 h3 (Nat.le_of_ble_eq_true rfl) (Nat.le_of_ble_eq_true rfl) h5 h6 h7)
  · replace hf := sm_inr hf
    obtain rfl := Sum.inr.inj (Option.some.inj hf)
    exact a_callVx (pc := 2) (bs' := [bX11 y a0 z0_tape z0_tokens z0_hillReader z0_lawReader (a1 0) z0_rules (a2 0) z0_spare z0_draft z0_spareDiary z0_guess (a3 0) z0_imageHill z0_imageRules z0_imageDiary v0, bX3 y a1 v1, bX1 y a2 v2, bX8 y a3 a4 a5 v3, bPH y a4 v4, bPD y a5 v5]) (kb := 0) (j := 0) F [0, 1] (x_X11_checkHouse l hlt D y ek n a0 a1 z0_tape z0_tokens z0_hillReader z0_lawReader z0_rules (a2 0) z0_spare z0_draft z0_spareDiary z0_guess (a3 0) z0_imageHill z0_imageRules z0_imageDiary _ _ _ _ ht1a) (cwV 1 F.1.2.2.2.2 (gV q4_199 q4_201 qs_18 q1_1 q4_202) rfl rfl rfl (by decide +kernel) ⟨Nat.le_of_ble_eq_true rfl, Nat.le_of_ble_eq_true rfl⟩) rfl rfl rfl rfl (by decide) rfl rfl rfl rfl rfl rfl (Nat.le_of_ble_eq_true rfl) ⟨Nat.le_of_ble_eq_true rfl, Nat.le_of_ble_eq_true rfl⟩ dX11_give_2 (fun H1 locs1 ls q9 ce h1 h2 h3 h4 h5 h6 h7 => hout H1 locs1 ls _ _ _ _ q9 ce h1 h2 h3 (Nat.le_of_ble_eq_true rfl) (Nat.le_of_ble_eq_true rfl) h5 h6 h7)

abbrev wX11_weeks : List Cond := Cond.code yX11_weeks cX11_weeks 4 (some .int) :: WALL
def m_X11_weeks (n : Nat) (v0 : St) (v1 : St) (v2 : St) (v3 : St) (v4 : St) (v5 : Nat → St) (v6 : Nat → St) (x1 : Int32) : Option ((Int32 × St × St × St × St × (Nat → St) × (Nat → St)) ⊕ (Nat × St × St × St × St × (Nat → St) × (Nat → St))) :=
bd (m_X11_checkNumber n x1 1 60) (fun t1 => sm t1 (fun t1a =>
bd (m_X8_remember n v4 v5 v6 v1 v3) (fun t2 =>
lp (fun (rc3 : Int32 × Int32 × St × St × St → Option ((Int32 × St × St × St × St × (Nat → St) × (Nat → St)) ⊕ (Nat × St × St × St × St × (Nat → St) × (Nat → St)))) (x3l : Int32 × Int32 × St × St × St) =>
(if x1 ≤ x3l.2.1 then
some (Sum.inl (x3l.1, x3l.2.2.1, x3l.2.2.2.1, x3l.2.2.2.2, t2.1, t2.2.1, t2.2.2))
else
bd (m_X3_passWeek n x3l.2.2.1 x3l.2.2.2.1 x3l.2.2.2.2) (fun t4 =>
nm (x3l.1 + t4.1) (fun x2_5 =>
rc3 (x2_5, (x3l.2.1 + 1), t4.2.1, t4.2.2.1, t4.2.2.2))))) n (0, 0, v1, v2, v3))) (fun t1x => some (Sum.inr (t1x, v1, v2, v3, v4, v5, v6))))
set_option maxHeartbeats 4000000 in
set_option maxRecDepth 100000 in
theorem c_X11_weeks (l : Launch) (D : va_G) (y : Nat → ClassId) (ek : EK) (n : Nat) (a0 : Nat → Nat) (a1 : Nat → Nat) (a2 : Nat → Nat) (a3 : Nat → Nat) (a4 : Nat → Nat) (a5 : Nat → Nat → Nat) (a6 : Nat → Nat → Nat) (z0_tape : Nat) (z0_tokens : Nat) (z0_hillReader : Nat) (z0_lawReader : Nat) (z0_spare : Nat) (z0_draft : Nat) (z0_spareDiary : Nat) (z0_guess : Nat) (z0_imageHill : Nat) (z0_imageRules : Nat) (z0_imageDiary : Nat) (v0 : St) (v1 : St) (v2 : St) (v3 : St) (v4 : St) (v5 : Nat → St) (v6 : Nat → St) (x1 : Int32) (res : Int32 × St × St × St × St × (Nat → St) × (Nat → St)) (hf : m_X11_weeks n v0 v1 v2 v3 v4 v5 v6 x1 = some (Sum.inl res)) : CI l yX11_weeks wX11_weeks { frames := 7, cells := 0, slots := 0, locals := 149 } D y ek [.ref (a0 0), .int x1] [bX11 y a0 z0_tape z0_tokens z0_hillReader z0_lawReader (a1 0) (a2 0) (a3 0) z0_spare z0_draft z0_spareDiary z0_guess (a4 0) z0_imageHill z0_imageRules z0_imageDiary v0, bX3 y a1 v1, bX5 y a2 v2, bX1 y a3 v3, bX8 y a4 a5 a6 v4, bPH y a5 v5, bPD y a6 v6] (res.1) [bX11 y a0 z0_tape z0_tokens z0_hillReader z0_lawReader (a1 0) (a2 0) (a3 0) z0_spare z0_draft z0_spareDiary z0_guess (a4 0) z0_imageHill z0_imageRules z0_imageDiary v0, bX3 y a1 res.2.1, bX5 y a2 res.2.2.1, bX1 y a3 res.2.2.2.1, bX8 y a4 a5 a6 res.2.2.2.2.1, bPH y a5 res.2.2.2.2.2.1, bPD y a6 res.2.2.2.2.2.2] 0 0 := by
  unfold m_X11_weeks at hf
  refine ci_of (cc := cX11_weeks) (maxL := 4) (by decide) rfl rfl (Nat.le_of_ble_eq_true rfl) ?_
  intro p e s m below meth c Q A F hret
  refine a_lv (lv' := [(0, .ref (a0 0)), (1, .int x1)]) rfl ?_
  refine a_iloadn (pc := 0) (j := 1) F dX11_weeks_0 rfl rfl ?_
  refine a_iconst (pc := 1) F dX11_weeks_1 kc_1 ?_
  refine a_bipush (pc := 2) F dX11_weeks_2 kb_60 ?_
  obtain ⟨t1, ht1a, hf⟩ := bd_some hf
  rcases t1 with t1a | t1x
  · replace hf := sm_inl hf
    refine a_callSv (pc := 4) (bs' := [bX11 y a0 z0_tape z0_tokens z0_hillReader z0_lawReader (a1 0) (a2 0) (a3 0) z0_spare z0_draft z0_spareDiary z0_guess (a4 0) z0_imageHill z0_imageRules z0_imageDiary v0, bX3 y a1 v1, bX5 y a2 v2, bX1 y a3 v3, bX8 y a4 a5 a6 v4, bPH y a5 v5, bPD y a6 v6]) F [] (c_X11_checkNumber l D y ek n  _ _ _ _ ht1a) (va_cwS 3 F.1.2.2.2.2 (gS q5_19 q5_20 q1_1 q5_21) rfl rfl rfl (by decide +kernel) ⟨Nat.le_of_ble_eq_true rfl, Nat.le_of_ble_eq_true rfl⟩) (by decide) rfl rfl rfl rfl rfl rfl (Nat.le_of_ble_eq_true rfl) ⟨Nat.zero_le _, Nat.zero_le _⟩ dX11_weeks_4 ?_
    refine a_aloadn (pc := 7) (j := 0) F dX11_weeks_7 rfl rfl ?_
    refine a_get (pc := 8) (kb := 0) (j := 0) (f := 14) F iW_X11 rfl rfl rfl (by decide) (tl q2_70) (fun _ h => h) rfl dX11_weeks_8 ?_
    refine a_aloadn (pc := 11) (j := 0) F dX11_weeks_11 rfl rfl ?_
    refine a_get (pc := 12) (kb := 0) (j := 0) (f := 7) F iW_X11 rfl rfl rfl (by decide) (tl q2_63) (fun _ h => h) rfl dX11_weeks_12 ?_
    refine a_aloadn (pc := 15) (j := 0) F dX11_weeks_15 rfl rfl ?_
    refine a_get (pc := 16) (kb := 0) (j := 0) (f := 9) F iW_X11 rfl rfl rfl (by decide) (tl q2_65) (fun _ h => h) rfl dX11_weeks_16 ?_
    obtain ⟨t2, ht2, hf⟩ := bd_some hf
    refine a_callVv (pc := 19) (bs' := [bX11 y a0 z0_tape z0_tokens z0_hillReader z0_lawReader (a1 0) (a2 0) (a3 0) z0_spare z0_draft z0_spareDiary z0_guess (a4 0) z0_imageHill z0_imageRules z0_imageDiary v0, bX3 y a1 v1, bX5 y a2 v2, bX1 y a3 v3, bX8 y a4 a5 a6 t2.1, bPH y a5 t2.2.1, bPD y a6 t2.2.2]) (kb := 4) (j := 0) F [4, 5, 6, 1, 3] (c_X8_remember l D y ek n a4 a5 a6 a1 a3 _ _ _ _ _ _ ht2) (cwV 2 F.1.2.2.2.2 (gV q2_137 q2_138 q2_139 q1_10 q2_140) rfl rfl rfl (by decide +kernel) ⟨Nat.le_of_ble_eq_true rfl, Nat.le_of_ble_eq_true rfl⟩) rfl rfl rfl rfl (by decide) rfl rfl rfl rfl rfl rfl (Nat.le_of_ble_eq_true rfl) ⟨Nat.zero_le _, Nat.zero_le _⟩ dX11_weeks_19 ?_
    refine a_iconst (pc := 22) F dX11_weeks_22 kc_0 ?_
    refine a_istoren (pc := 23) (lv' := [(0, .ref (a0 0)), (1, .int x1), (2, .int 0)]) F [1, 2, 0] dX11_weeks_23 rfl (by decide) rfl ?_
    refine a_iconst (pc := 24) F dX11_weeks_24 kc_0 ?_
    refine a_istoren (pc := 25) (lv' := [(0, .ref (a0 0)), (1, .int x1), (2, .int 0), (3, .int 0)]) F [1, 2, 3, 0] dX11_weeks_25 rfl (by decide) rfl ?_
    refine a_loop 26 (fun (x3l : Int32 × Int32 × St × St × St) => [(0, .ref (a0 0)), (1, .int x1), (2, .int x3l.1), (3, .int x3l.2.1)]) (fun (x3l : Int32 × Int32 × St × St × St) => [bX11 y a0 z0_tape z0_tokens z0_hillReader z0_lawReader (a1 0) (a2 0) (a3 0) z0_spare z0_draft z0_spareDiary z0_guess (a4 0) z0_imageHill z0_imageRules z0_imageDiary v0, bX3 y a1 x3l.2.2.1, bX5 y a2 x3l.2.2.2.1, bX1 y a3 x3l.2.2.2.2, bX8 y a4 a5 a6 t2.1, bPH y a5 t2.2.1, bPD y a6 t2.2.2]) (fun rc3 x3l ih3 hf => ?_) hf rfl rfl
    try dsimp only at hf ⊢
    refine a_iloadn (pc := 26) (j := 3) F dX11_weeks_26 rfl rfl ?_
    refine a_iloadn (pc := 27) (j := 1) F dX11_weeks_27 rfl rfl ?_
    refine a_icmp_ge (pc := 28) (tgt := 55) F dX11_weeks_28 (by decide) (fun h => ?_) (fun h => ?_)
    · replace hf := it_pos h hf
      refine a_iloadn (pc := 55) (j := 2) F dX11_weeks_55 rfl rfl ?_
      obtain rfl := Sum.inl.inj (Option.some.inj hf)
      exact hret _ _ _ _ (Nat.zero_le _) (Nat.zero_le _) rfl dX11_weeks_56
    · replace hf := it_neg h hf
      refine a_iloadn (pc := 31) (j := 2) F dX11_weeks_31 rfl rfl ?_
      refine a_aloadn (pc := 32) (j := 0) F dX11_weeks_32 rfl rfl ?_
      refine a_get (pc := 33) (kb := 0) (j := 0) (f := 7) F iW_X11 rfl rfl rfl (by decide) (tl q2_63) (fun _ h => h) rfl dX11_weeks_33 ?_
      refine a_aloadn (pc := 36) (j := 0) F dX11_weeks_36 rfl rfl ?_
      refine a_get (pc := 37) (kb := 0) (j := 0) (f := 8) F iW_X11 rfl rfl rfl (by decide) (tl q2_64) (fun _ h => h) rfl dX11_weeks_37 ?_
      refine a_aloadn (pc := 40) (j := 0) F dX11_weeks_40 rfl rfl ?_
      refine a_get (pc := 41) (kb := 0) (j := 0) (f := 9) F iW_X11 rfl rfl rfl (by decide) (tl q2_65) (fun _ h => h) rfl dX11_weeks_41 ?_
      obtain ⟨t4, ht4, hf⟩ := bd_some hf
      refine a_callV (pc := 44) (bs' := [bX11 y a0 z0_tape z0_tokens z0_hillReader z0_lawReader (a1 0) (a2 0) (a3 0) z0_spare z0_draft z0_spareDiary z0_guess (a4 0) z0_imageHill z0_imageRules z0_imageDiary v0, bX3 y a1 t4.2.1, bX5 y a2 t4.2.2.1, bX1 y a3 t4.2.2.2, bX8 y a4 a5 a6 t2.1, bPH y a5 t2.2.1, bPD y a6 t2.2.2]) (kb := 1) (j := 0) F [1, 2, 3] (c_X3_passWeek l D y ek n a1 a2 a3 _ _ _ _ ht4) (cwV 2 F.1.2.2.2.2 (gV q5_51 q5_52 q5_53 q1_3 q5_54) rfl rfl rfl (by decide +kernel) ⟨Nat.le_of_ble_eq_true rfl, Nat.le_of_ble_eq_true rfl⟩) rfl rfl rfl rfl (by decide) rfl rfl rfl rfl rfl rfl (Nat.le_of_ble_eq_true rfl) ⟨Nat.zero_le _, Nat.zero_le _⟩ dX11_weeks_44 ?_
      refine a_iadd (pc := 47) F dX11_weeks_47 ?_
      obtain ⟨x2_5, ex2_5, hf⟩ := nm_some hf
      refine a_nmi ex2_5 ?_
      refine a_istoren (pc := 48) (lv' := [(0, .ref (a0 0)), (1, .int x1), (2, .int x2_5), (3, .int x3l.2.1)]) F [1, 2, 0, 3] dX11_weeks_48 rfl (by decide) rfl ?_
      refine a_iinc (pc := 49) (j := 3) (v := (x3l.2.1 + 1)) (lv' := [(0, .ref (a0 0)), (1, .int x1), (2, .int x2_5), (3, .int (x3l.2.1 + 1))]) F [1, 2, 3, 0] dX11_weeks_49 rfl ki_1 (by decide) rfl ?_
      refine a_goto (pc := 52) (tgt := 26) F dX11_weeks_52 (by decide) ?_
      exact ih3 (x2_5, (x3l.2.1 + 1), t4.2.1, t4.2.2.1, t4.2.2.2) hf
  · replace hf := sm_inr hf
    exact absurd hf (by simp)
set_option maxHeartbeats 4000000 in
set_option maxRecDepth 100000 in
theorem x_X11_weeks (l : Launch) (hlt : l.stackTraces = false) (D : va_G) (y : Nat → ClassId) (ek : EK) (n : Nat) (a0 : Nat → Nat) (a1 : Nat → Nat) (a2 : Nat → Nat) (a3 : Nat → Nat) (a4 : Nat → Nat) (a5 : Nat → Nat → Nat) (a6 : Nat → Nat → Nat) (z0_tape : Nat) (z0_tokens : Nat) (z0_hillReader : Nat) (z0_lawReader : Nat) (z0_spare : Nat) (z0_draft : Nat) (z0_spareDiary : Nat) (z0_guess : Nat) (z0_imageHill : Nat) (z0_imageRules : Nat) (z0_imageDiary : Nat) (v0 : St) (v1 : St) (v2 : St) (v3 : St) (v4 : St) (v5 : Nat → St) (v6 : Nat → St) (x1 : Int32) (res : Nat × St × St × St × St × (Nat → St) × (Nat → St)) (hf : m_X11_weeks n v0 v1 v2 v3 v4 v5 v6 x1 = some (Sum.inr res)) : CX l yX11_weeks wX11_weeks { frames := 7, cells := 1, slots := 6, locals := 149 } D y ek [.ref (a0 0), .int x1] [bX11 y a0 z0_tape z0_tokens z0_hillReader z0_lawReader (a1 0) (a2 0) (a3 0) z0_spare z0_draft z0_spareDiary z0_guess (a4 0) z0_imageHill z0_imageRules z0_imageDiary v0, bX3 y a1 v1, bX5 y a2 v2, bX1 y a3 v3, bX8 y a4 a5 a6 v4, bPH y a5 v5, bPD y a6 v6] (eX.getD res.1 "") [bX11 y a0 z0_tape z0_tokens z0_hillReader z0_lawReader (a1 0) (a2 0) (a3 0) z0_spare z0_draft z0_spareDiary z0_guess (a4 0) z0_imageHill z0_imageRules z0_imageDiary v0, bX3 y a1 res.2.1, bX5 y a2 res.2.2.1, bX1 y a3 res.2.2.2.1, bX8 y a4 a5 a6 res.2.2.2.2.1, bPH y a5 res.2.2.2.2.2.1, bPD y a6 res.2.2.2.2.2.2] 1 6 := by
  unfold m_X11_weeks at hf
  refine cx_of (cc := cX11_weeks) (maxL := 4) hlt (by decide) rfl (Nat.le_of_ble_eq_true rfl) (Nat.le_refl 1) (Nat.le_refl 6) ?_
  intro p e s m below meth c Q A F hthr hout
  refine a_lv (lv' := [(0, .ref (a0 0)), (1, .int x1)]) rfl ?_
  refine a_iloadn (pc := 0) (j := 1) F dX11_weeks_0 rfl rfl ?_
  refine a_iconst (pc := 1) F dX11_weeks_1 kc_1 ?_
  refine a_bipush (pc := 2) F dX11_weeks_2 kb_60 ?_
  obtain ⟨t1, ht1a, hf⟩ := bd_some hf
  rcases t1 with t1a | t1x
  · replace hf := sm_inl hf
    refine a_callSv (pc := 4) (bs' := [bX11 y a0 z0_tape z0_tokens z0_hillReader z0_lawReader (a1 0) (a2 0) (a3 0) z0_spare z0_draft z0_spareDiary z0_guess (a4 0) z0_imageHill z0_imageRules z0_imageDiary v0, bX3 y a1 v1, bX5 y a2 v2, bX1 y a3 v3, bX8 y a4 a5 a6 v4, bPH y a5 v5, bPD y a6 v6]) F [] (c_X11_checkNumber l D y ek n  _ _ _ _ ht1a) (va_cwS 3 F.1.2.2.2.2 (gS q5_19 q5_20 q1_1 q5_21) rfl rfl rfl (by decide +kernel) ⟨Nat.le_of_ble_eq_true rfl, Nat.le_of_ble_eq_true rfl⟩) (by decide) rfl rfl rfl rfl rfl rfl (Nat.le_of_ble_eq_true rfl) ⟨Nat.zero_le _, Nat.zero_le _⟩ dX11_weeks_4 ?_
    refine a_aloadn (pc := 7) (j := 0) F dX11_weeks_7 rfl rfl ?_
    refine a_get (pc := 8) (kb := 0) (j := 0) (f := 14) F iW_X11 rfl rfl rfl (by decide) (tl q2_70) (fun _ h => h) rfl dX11_weeks_8 ?_
    refine a_aloadn (pc := 11) (j := 0) F dX11_weeks_11 rfl rfl ?_
    refine a_get (pc := 12) (kb := 0) (j := 0) (f := 7) F iW_X11 rfl rfl rfl (by decide) (tl q2_63) (fun _ h => h) rfl dX11_weeks_12 ?_
    refine a_aloadn (pc := 15) (j := 0) F dX11_weeks_15 rfl rfl ?_
    refine a_get (pc := 16) (kb := 0) (j := 0) (f := 9) F iW_X11 rfl rfl rfl (by decide) (tl q2_65) (fun _ h => h) rfl dX11_weeks_16 ?_
    obtain ⟨t2, ht2, hf⟩ := bd_some hf
    refine a_callVv (pc := 19) (bs' := [bX11 y a0 z0_tape z0_tokens z0_hillReader z0_lawReader (a1 0) (a2 0) (a3 0) z0_spare z0_draft z0_spareDiary z0_guess (a4 0) z0_imageHill z0_imageRules z0_imageDiary v0, bX3 y a1 v1, bX5 y a2 v2, bX1 y a3 v3, bX8 y a4 a5 a6 t2.1, bPH y a5 t2.2.1, bPD y a6 t2.2.2]) (kb := 4) (j := 0) F [4, 5, 6, 1, 3] (c_X8_remember l D y ek n a4 a5 a6 a1 a3 _ _ _ _ _ _ ht2) (cwV 2 F.1.2.2.2.2 (gV q2_137 q2_138 q2_139 q1_10 q2_140) rfl rfl rfl (by decide +kernel) ⟨Nat.le_of_ble_eq_true rfl, Nat.le_of_ble_eq_true rfl⟩) rfl rfl rfl rfl (by decide) rfl rfl rfl rfl rfl rfl (Nat.le_of_ble_eq_true rfl) ⟨Nat.zero_le _, Nat.zero_le _⟩ dX11_weeks_19 ?_
    refine a_iconst (pc := 22) F dX11_weeks_22 kc_0 ?_
    refine a_istoren (pc := 23) (lv' := [(0, .ref (a0 0)), (1, .int x1), (2, .int 0)]) F [1, 2, 0] dX11_weeks_23 rfl (by decide) rfl ?_
    refine a_iconst (pc := 24) F dX11_weeks_24 kc_0 ?_
    refine a_istoren (pc := 25) (lv' := [(0, .ref (a0 0)), (1, .int x1), (2, .int 0), (3, .int 0)]) F [1, 2, 3, 0] dX11_weeks_25 rfl (by decide) rfl ?_
    refine a_loop 26 (fun (x3l : Int32 × Int32 × St × St × St) => [(0, .ref (a0 0)), (1, .int x1), (2, .int x3l.1), (3, .int x3l.2.1)]) (fun (x3l : Int32 × Int32 × St × St × St) => [bX11 y a0 z0_tape z0_tokens z0_hillReader z0_lawReader (a1 0) (a2 0) (a3 0) z0_spare z0_draft z0_spareDiary z0_guess (a4 0) z0_imageHill z0_imageRules z0_imageDiary v0, bX3 y a1 x3l.2.2.1, bX5 y a2 x3l.2.2.2.1, bX1 y a3 x3l.2.2.2.2, bX8 y a4 a5 a6 t2.1, bPH y a5 t2.2.1, bPD y a6 t2.2.2]) (fun rc3 x3l ih3 hf => ?_) hf rfl rfl
    try dsimp only at hf ⊢
    refine a_iloadn (pc := 26) (j := 3) F dX11_weeks_26 rfl rfl ?_
    refine a_iloadn (pc := 27) (j := 1) F dX11_weeks_27 rfl rfl ?_
    refine a_icmp_ge (pc := 28) (tgt := 55) F dX11_weeks_28 (by decide) (fun h => ?_) (fun h => ?_)
    · replace hf := it_pos h hf
      refine a_iloadn (pc := 55) (j := 2) F dX11_weeks_55 rfl rfl ?_
      exact absurd hf (by simp)
    · replace hf := it_neg h hf
      refine a_iloadn (pc := 31) (j := 2) F dX11_weeks_31 rfl rfl ?_
      refine a_aloadn (pc := 32) (j := 0) F dX11_weeks_32 rfl rfl ?_
      refine a_get (pc := 33) (kb := 0) (j := 0) (f := 7) F iW_X11 rfl rfl rfl (by decide) (tl q2_63) (fun _ h => h) rfl dX11_weeks_33 ?_
      refine a_aloadn (pc := 36) (j := 0) F dX11_weeks_36 rfl rfl ?_
      refine a_get (pc := 37) (kb := 0) (j := 0) (f := 8) F iW_X11 rfl rfl rfl (by decide) (tl q2_64) (fun _ h => h) rfl dX11_weeks_37 ?_
      refine a_aloadn (pc := 40) (j := 0) F dX11_weeks_40 rfl rfl ?_
      refine a_get (pc := 41) (kb := 0) (j := 0) (f := 9) F iW_X11 rfl rfl rfl (by decide) (tl q2_65) (fun _ h => h) rfl dX11_weeks_41 ?_
      obtain ⟨t4, ht4, hf⟩ := bd_some hf
      refine a_callV (pc := 44) (bs' := [bX11 y a0 z0_tape z0_tokens z0_hillReader z0_lawReader (a1 0) (a2 0) (a3 0) z0_spare z0_draft z0_spareDiary z0_guess (a4 0) z0_imageHill z0_imageRules z0_imageDiary v0, bX3 y a1 t4.2.1, bX5 y a2 t4.2.2.1, bX1 y a3 t4.2.2.2, bX8 y a4 a5 a6 t2.1, bPH y a5 t2.2.1, bPD y a6 t2.2.2]) (kb := 1) (j := 0) F [1, 2, 3] (c_X3_passWeek l D y ek n a1 a2 a3 _ _ _ _ ht4) (cwV 2 F.1.2.2.2.2 (gV q5_51 q5_52 q5_53 q1_3 q5_54) rfl rfl rfl (by decide +kernel) ⟨Nat.le_of_ble_eq_true rfl, Nat.le_of_ble_eq_true rfl⟩) rfl rfl rfl rfl (by decide) rfl rfl rfl rfl rfl rfl (Nat.le_of_ble_eq_true rfl) ⟨Nat.zero_le _, Nat.zero_le _⟩ dX11_weeks_44 ?_
      refine a_iadd (pc := 47) F dX11_weeks_47 ?_
      obtain ⟨x2_5, ex2_5, hf⟩ := nm_some hf
      refine a_nmi ex2_5 ?_
      refine a_istoren (pc := 48) (lv' := [(0, .ref (a0 0)), (1, .int x1), (2, .int x2_5), (3, .int x3l.2.1)]) F [1, 2, 0, 3] dX11_weeks_48 rfl (by decide) rfl ?_
      refine a_iinc (pc := 49) (j := 3) (v := (x3l.2.1 + 1)) (lv' := [(0, .ref (a0 0)), (1, .int x1), (2, .int x2_5), (3, .int (x3l.2.1 + 1))]) F [1, 2, 3, 0] dX11_weeks_49 rfl ki_1 (by decide) rfl ?_
      refine a_goto (pc := 52) (tgt := 26) F dX11_weeks_52 (by decide) ?_
      exact ih3 (x2_5, (x3l.2.1 + 1), t4.2.1, t4.2.2.1, t4.2.2.2) hf
  · replace hf := sm_inr hf
    obtain rfl := Sum.inr.inj (Option.some.inj hf)
    exact a_callSx (pc := 4) (bs' := [bX11 y a0 z0_tape z0_tokens z0_hillReader z0_lawReader (a1 0) (a2 0) (a3 0) z0_spare z0_draft z0_spareDiary z0_guess (a4 0) z0_imageHill z0_imageRules z0_imageDiary v0, bX3 y a1 v1, bX5 y a2 v2, bX1 y a3 v3, bX8 y a4 a5 a6 v4, bPH y a5 v5, bPD y a6 v6]) F [] (x_X11_checkNumber l hlt D y ek n  _ _ _ _ ht1a) (va_cwS 3 F.1.2.2.2.2 (gS q5_19 q5_20 q1_1 q5_21) rfl rfl rfl (by decide +kernel) ⟨Nat.le_of_ble_eq_true rfl, Nat.le_of_ble_eq_true rfl⟩) (by decide) rfl rfl rfl rfl rfl rfl (Nat.le_of_ble_eq_true rfl) ⟨Nat.le_of_ble_eq_true rfl, Nat.le_of_ble_eq_true rfl⟩ dX11_weeks_4 (fun H1 locs1 ls q9 ce h1 h2 h3 h4 h5 h6 h7 => hout H1 locs1 ls _ _ _ _ q9 ce h1 h2 h3 (Nat.le_of_ble_eq_true rfl) (Nat.le_of_ble_eq_true rfl) h5 h6 h7)
