abbrev wX11_best : List Cond := Cond.code yX11_best cX11_best 2 (some .int) :: WALL
def m_X11_best (n : Nat) (v0 : St) (v1 : St) (x1 : Int32) : Option ((Int32) ⊕ (Nat)) :=
bd (m_X11_checkPlank n v0 v1 x1) (fun t1 => sm t1 (fun t1a =>
bd (m_X0_levelling n v1 x1) (fun t2 =>
some (Sum.inl t2))) (fun t1x => some (Sum.inr t1x)))
set_option maxHeartbeats 4000000 in
set_option maxRecDepth 100000 in
theorem c_X11_best (l : Launch) (D : va_G) (y : Nat → ClassId) (ek : EK) (n : Nat) (a0 : Nat → Nat) (a1 : Nat → Nat) (z0_tape : Nat) (z0_tokens : Nat) (z0_hillReader : Nat) (z0_lawReader : Nat) (z0_rules : Nat) (z0_diary : Nat) (z0_spare : Nat) (z0_draft : Nat) (z0_spareDiary : Nat) (z0_guess : Nat) (z0_past : Nat) (z0_imageHill : Nat) (z0_imageRules : Nat) (z0_imageDiary : Nat) (v0 : St) (v1 : St) (x1 : Int32) (res : Int32) (hf : m_X11_best n v0 v1 x1 = some (Sum.inl res)) : CI l yX11_best wX11_best { frames := 7, cells := 0, slots := 0, locals := 103 } D y ek [.ref (a0 0), .int x1] [bX11 y a0 z0_tape z0_tokens z0_hillReader z0_lawReader (a1 0) z0_rules z0_diary z0_spare z0_draft z0_spareDiary z0_guess z0_past z0_imageHill z0_imageRules z0_imageDiary v0, bX3 y a1 v1] (res) [bX11 y a0 z0_tape z0_tokens z0_hillReader z0_lawReader (a1 0) z0_rules z0_diary z0_spare z0_draft z0_spareDiary z0_guess z0_past z0_imageHill z0_imageRules z0_imageDiary v0, bX3 y a1 v1] 0 0 := by
  unfold m_X11_best at hf
  refine ci_of (cc := cX11_best) (maxL := 2) (by decide) rfl rfl (Nat.le_of_ble_eq_true rfl) ?_
  intro p e s m below meth c Q A F hret
  refine a_lv (lv' := [(0, .ref (a0 0)), (1, .int x1)]) rfl ?_
  refine a_aloadn (pc := 0) (j := 0) F dX11_best_0 rfl rfl ?_
  refine a_iloadn (pc := 1) (j := 1) F dX11_best_1 rfl rfl ?_
  obtain ⟨t1, ht1a, hf⟩ := bd_some hf
  rcases t1 with t1a | t1x
  · replace hf := sm_inl hf
    refine a_callVv (pc := 2) (bs' := [bX11 y a0 z0_tape z0_tokens z0_hillReader z0_lawReader (a1 0) z0_rules z0_diary z0_spare z0_draft z0_spareDiary z0_guess z0_past z0_imageHill z0_imageRules z0_imageDiary v0, bX3 y a1 v1]) (kb := 0) (j := 0) F [0, 1] (c_X11_checkPlank l D y ek n a0 a1 z0_tape z0_tokens z0_hillReader z0_lawReader z0_rules z0_diary z0_spare z0_draft z0_spareDiary z0_guess z0_past z0_imageHill z0_imageRules z0_imageDiary _ _ _ _ ht1a) (cwV 1 F.1.2.2.2.2 (gV q4_153 q4_155 qs_17 q1_1 q4_156) rfl rfl rfl (by decide +kernel) ⟨Nat.le_of_ble_eq_true rfl, Nat.le_of_ble_eq_true rfl⟩) rfl rfl rfl rfl (by decide) rfl rfl rfl rfl rfl rfl (Nat.le_of_ble_eq_true rfl) ⟨Nat.zero_le _, Nat.zero_le _⟩ dX11_best_2 ?_
    refine a_aloadn (pc := 5) (j := 0) F dX11_best_5 rfl rfl ?_
    refine a_get (pc := 6) (kb := 0) (j := 0) (f := 7) F iW_X11 rfl rfl rfl (by decide) (tl q2_63) (fun _ h => h) rfl dX11_best_6 ?_
    refine a_iloadn (pc := 9) (j := 1) F dX11_best_9 rfl rfl ?_
    obtain ⟨t2, ht2, hf⟩ := bd_some hf
    refine a_callS (pc := 10) (bs' := [bX11 y a0 z0_tape z0_tokens z0_hillReader z0_lawReader (a1 0) z0_rules z0_diary z0_spare z0_draft z0_spareDiary z0_guess z0_past z0_imageHill z0_imageRules z0_imageDiary v0, bX3 y a1 v1]) F [1] (c_X0_levelling l D y ek n a1 _ _ _ ht2) (va_cwS 2 F.1.2.2.2.2 (gS q5_74 q5_75 q1_27 q5_76) rfl rfl rfl (by decide +kernel) ⟨Nat.le_of_ble_eq_true rfl, Nat.le_of_ble_eq_true rfl⟩) (by decide) rfl rfl rfl rfl rfl rfl (Nat.le_of_ble_eq_true rfl) ⟨Nat.zero_le _, Nat.zero_le _⟩ dX11_best_10 ?_
    obtain rfl := Sum.inl.inj (Option.some.inj hf)
    exact hret _ _ _ _ (Nat.zero_le _) (Nat.zero_le _) rfl dX11_best_13
  · replace hf := sm_inr hf
    exact absurd hf (by simp)
set_option maxHeartbeats 4000000 in
set_option maxRecDepth 100000 in
theorem x_X11_best (l : Launch) (hlt : l.stackTraces = false) (D : va_G) (y : Nat → ClassId) (ek : EK) (n : Nat) (a0 : Nat → Nat) (a1 : Nat → Nat) (z0_tape : Nat) (z0_tokens : Nat) (z0_hillReader : Nat) (z0_lawReader : Nat) (z0_rules : Nat) (z0_diary : Nat) (z0_spare : Nat) (z0_draft : Nat) (z0_spareDiary : Nat) (z0_guess : Nat) (z0_past : Nat) (z0_imageHill : Nat) (z0_imageRules : Nat) (z0_imageDiary : Nat) (v0 : St) (v1 : St) (x1 : Int32) (res : Nat) (hf : m_X11_best n v0 v1 x1 = some (Sum.inr res)) : CX l yX11_best wX11_best { frames := 7, cells := 1, slots := 6, locals := 103 } D y ek [.ref (a0 0), .int x1] [bX11 y a0 z0_tape z0_tokens z0_hillReader z0_lawReader (a1 0) z0_rules z0_diary z0_spare z0_draft z0_spareDiary z0_guess z0_past z0_imageHill z0_imageRules z0_imageDiary v0, bX3 y a1 v1] (eX.getD res "") [bX11 y a0 z0_tape z0_tokens z0_hillReader z0_lawReader (a1 0) z0_rules z0_diary z0_spare z0_draft z0_spareDiary z0_guess z0_past z0_imageHill z0_imageRules z0_imageDiary v0, bX3 y a1 v1] 1 6 := by
  unfold m_X11_best at hf
  refine cx_of (cc := cX11_best) (maxL := 2) hlt (by decide) rfl (Nat.le_of_ble_eq_true rfl) (Nat.le_refl 1) (Nat.le_refl 6) ?_
  intro p e s m below meth c Q A F hthr hout
  refine a_lv (lv' := [(0, .ref (a0 0)), (1, .int x1)]) rfl ?_
  refine a_aloadn (pc := 0) (j := 0) F dX11_best_0 rfl rfl ?_
  refine a_iloadn (pc := 1) (j := 1) F dX11_best_1 rfl rfl ?_
  obtain ⟨t1, ht1a, hf⟩ := bd_some hf
  rcases t1 with t1a | t1x
  · replace hf := sm_inl hf
    refine a_callVv (pc := 2) (bs' := [bX11 y a0 z0_tape z0_tokens z0_hillReader z0_lawReader (a1 0) z0_rules z0_diary z0_spare z0_draft z0_spareDiary z0_guess z0_past z0_imageHill z0_imageRules z0_imageDiary v0, bX3 y a1 v1]) (kb := 0) (j := 0) F [0, 1] (c_X11_checkPlank l D y ek n a0 a1 z0_tape z0_tokens z0_hillReader z0_lawReader z0_rules z0_diary z0_spare z0_draft z0_spareDiary z0_guess z0_past z0_imageHill z0_imageRules z0_imageDiary _ _ _ _ ht1a) (cwV 1 F.1.2.2.2.2 (gV q4_153 q4_155 qs_17 q1_1 q4_156) rfl rfl rfl (by decide +kernel) ⟨Nat.le_of_ble_eq_true rfl, Nat.le_of_ble_eq_true rfl⟩) rfl rfl rfl rfl (by decide) rfl rfl rfl rfl rfl rfl (Nat.le_of_ble_eq_true rfl) ⟨Nat.zero_le _, Nat.zero_le _⟩ dX11_best_2 ?_
    refine a_aloadn (pc := 5) (j := 0) F dX11_best_5 rfl rfl ?_
    refine a_get (pc := 6) (kb := 0) (j := 0) (f := 7) F iW_X11 rfl rfl rfl (by decide) (tl q2_63) (fun _ h => h) rfl dX11_best_6 ?_
    refine a_iloadn (pc := 9) (j := 1) F dX11_best_9 rfl rfl ?_
    obtain ⟨t2, ht2, hf⟩ := bd_some hf
    refine a_callS (pc := 10) (bs' := [bX11 y a0 z0_tape z0_tokens z0_hillReader z0_lawReader (a1 0) z0_rules z0_diary z0_spare z0_draft z0_spareDiary z0_guess z0_past z0_imageHill z0_imageRules z0_imageDiary v0, bX3 y a1 v1]) F [1] (c_X0_levelling l D y ek n a1 _ _ _ ht2) (va_cwS 2 F.1.2.2.2.2 (gS q5_74 q5_75 q1_27 q5_76) rfl rfl rfl (by decide +kernel) ⟨Nat.le_of_ble_eq_true rfl, Nat.le_of_ble_eq_true rfl⟩) (by decide) rfl rfl rfl rfl rfl rfl (Nat.le_of_ble_eq_true rfl) ⟨Nat.zero_le _, Nat.zero_le _⟩ dX11_best_10 ?_
    exact absurd hf (by simp)
  · replace hf := sm_inr hf
    obtain rfl := Sum.inr.inj (Option.some.inj hf)
    exact a_callVx (pc := 2) (bs' := [bX11 y a0 z0_tape z0_tokens z0_hillReader z0_lawReader (a1 0) z0_rules z0_diary z0_spare z0_draft z0_spareDiary z0_guess z0_past z0_imageHill z0_imageRules z0_imageDiary v0, bX3 y a1 v1]) (kb := 0) (j := 0) F [0, 1] (x_X11_checkPlank l hlt D y ek n a0 a1 z0_tape z0_tokens z0_hillReader z0_lawReader z0_rules z0_diary z0_spare z0_draft z0_spareDiary z0_guess z0_past z0_imageHill z0_imageRules z0_imageDiary _ _ _ _ ht1a) (cwV 1 F.1.2.2.2.2 (gV q4_153 q4_155 qs_17 q1_1 q4_156) rfl rfl rfl (by decide +kernel) ⟨Nat.le_of_ble_eq_true rfl, Nat.le_of_ble_eq_true rfl⟩) rfl rfl rfl rfl (by decide) rfl rfl rfl rfl rfl rfl (Nat.le_of_ble_eq_true rfl) ⟨Nat.le_of_ble_eq_true rfl, Nat.le_of_ble_eq_true rfl⟩ dX11_best_2 (fun H1 locs1 ls q9 ce h1 h2 h3 h4 h5 h6 h7 => hout H1 locs1 ls _ _ _ _ q9 ce h1 h2 h3 (Nat.le_of_ble_eq_true rfl) (Nat.le_of_ble_eq_true rfl) h5 h6 h7)

abbrev wX11_stand : List Cond := Cond.code yX11_stand cX11_stand 3 (some .int) :: WALL
def m_X11_stand (n : Nat) (v0 : St) (v1 : St) (x1 : Int32) (x2 : Int32) : Option ((Int32) ⊕ (Nat)) :=
bd (m_X11_checkPlank n v0 v1 x1) (fun t1 => sm t1 (fun t1a =>
bd (m_X11_checkNumber n x2 (-5) 5) (fun t2 => sm t2 (fun t2a =>
bd (m_X0_leastSet n v1 x1 x2 0) (fun t3 =>
some (Sum.inl t3))) (fun t2x => some (Sum.inr t2x)))) (fun t1x => some (Sum.inr t1x)))
set_option maxHeartbeats 4000000 in
set_option maxRecDepth 100000 in
theorem c_X11_stand (l : Launch) (D : va_G) (y : Nat → ClassId) (ek : EK) (n : Nat) (a0 : Nat → Nat) (a1 : Nat → Nat) (z0_tape : Nat) (z0_tokens : Nat) (z0_hillReader : Nat) (z0_lawReader : Nat) (z0_rules : Nat) (z0_diary : Nat) (z0_spare : Nat) (z0_draft : Nat) (z0_spareDiary : Nat) (z0_guess : Nat) (z0_past : Nat) (z0_imageHill : Nat) (z0_imageRules : Nat) (z0_imageDiary : Nat) (v0 : St) (v1 : St) (x1 : Int32) (x2 : Int32) (res : Int32) (hf : m_X11_stand n v0 v1 x1 x2 = some (Sum.inl res)) : CI l yX11_stand wX11_stand { frames := 7, cells := 0, slots := 0, locals := 104 } D y ek [.ref (a0 0), .int x1, .int x2] [bX11 y a0 z0_tape z0_tokens z0_hillReader z0_lawReader (a1 0) z0_rules z0_diary z0_spare z0_draft z0_spareDiary z0_guess z0_past z0_imageHill z0_imageRules z0_imageDiary v0, bX3 y a1 v1] (res) [bX11 y a0 z0_tape z0_tokens z0_hillReader z0_lawReader (a1 0) z0_rules z0_diary z0_spare z0_draft z0_spareDiary z0_guess z0_past z0_imageHill z0_imageRules z0_imageDiary v0, bX3 y a1 v1] 0 0 := by
  unfold m_X11_stand at hf
  refine ci_of (cc := cX11_stand) (maxL := 3) (by decide) rfl rfl (Nat.le_of_ble_eq_true rfl) ?_
  intro p e s m below meth c Q A F hret
  refine a_lv (lv' := [(0, .ref (a0 0)), (1, .int x1), (2, .int x2)]) rfl ?_
  refine a_aloadn (pc := 0) (j := 0) F dX11_stand_0 rfl rfl ?_
  refine a_iloadn (pc := 1) (j := 1) F dX11_stand_1 rfl rfl ?_
  obtain ⟨t1, ht1a, hf⟩ := bd_some hf
  rcases t1 with t1a | t1x
  · replace hf := sm_inl hf
    refine a_callVv (pc := 2) (bs' := [bX11 y a0 z0_tape z0_tokens z0_hillReader z0_lawReader (a1 0) z0_rules z0_diary z0_spare z0_draft z0_spareDiary z0_guess z0_past z0_imageHill z0_imageRules z0_imageDiary v0, bX3 y a1 v1]) (kb := 0) (j := 0) F [0, 1] (c_X11_checkPlank l D y ek n a0 a1 z0_tape z0_tokens z0_hillReader z0_lawReader z0_rules z0_diary z0_spare z0_draft z0_spareDiary z0_guess z0_past z0_imageHill z0_imageRules z0_imageDiary _ _ _ _ ht1a) (cwV 1 F.1.2.2.2.2 (gV q4_153 q4_155 qs_17 q1_1 q4_156) rfl rfl rfl (by decide +kernel) ⟨Nat.le_of_ble_eq_true rfl, Nat.le_of_ble_eq_true rfl⟩) rfl rfl rfl rfl (by decide) rfl rfl rfl rfl rfl rfl (Nat.le_of_ble_eq_true rfl) ⟨Nat.zero_le _, Nat.zero_le _⟩ dX11_stand_2 ?_
    refine a_iloadn (pc := 5) (j := 2) F dX11_stand_5 rfl rfl ?_
    refine a_bipush (pc := 6) F dX11_stand_6 kb_m5 ?_
    refine a_iconst (pc := 8) F dX11_stand_8 kc_5 ?_
    obtain ⟨t2, ht2a, hf⟩ := bd_some hf
    rcases t2 with t2a | t2x
    · replace hf := sm_inl hf
      refine a_callSv (pc := 9) (bs' := [bX11 y a0 z0_tape z0_tokens z0_hillReader z0_lawReader (a1 0) z0_rules z0_diary z0_spare z0_draft z0_spareDiary z0_guess z0_past z0_imageHill z0_imageRules z0_imageDiary v0, bX3 y a1 v1]) F [] (c_X11_checkNumber l D y ek n  _ _ _ _ ht2a) (va_cwS 3 F.1.2.2.2.2 (gS q5_19 q5_20 q1_1 q5_21) rfl rfl rfl (by decide +kernel) ⟨Nat.le_of_ble_eq_true rfl, Nat.le_of_ble_eq_true rfl⟩) (by decide) rfl rfl rfl rfl rfl rfl (Nat.le_of_ble_eq_true rfl) ⟨Nat.zero_le _, Nat.zero_le _⟩ dX11_stand_9 ?_
      refine a_aloadn (pc := 12) (j := 0) F dX11_stand_12 rfl rfl ?_
      refine a_get (pc := 13) (kb := 0) (j := 0) (f := 7) F iW_X11 rfl rfl rfl (by decide) (tl q2_63) (fun _ h => h) rfl dX11_stand_13 ?_
      refine a_iloadn (pc := 16) (j := 1) F dX11_stand_16 rfl rfl ?_
      refine a_iloadn (pc := 17) (j := 2) F dX11_stand_17 rfl rfl ?_
      refine a_iconst (pc := 18) F dX11_stand_18 kc_0 ?_
      obtain ⟨t3, ht3, hf⟩ := bd_some hf
      refine a_callS (pc := 19) (bs' := [bX11 y a0 z0_tape z0_tokens z0_hillReader z0_lawReader (a1 0) z0_rules z0_diary z0_spare z0_draft z0_spareDiary z0_guess z0_past z0_imageHill z0_imageRules z0_imageDiary v0, bX3 y a1 v1]) F [1] (c_X0_leastSet l D y ek n a1 _ _ _ _ _ ht3) (va_cwS 4 F.1.2.2.2.2 (gS q5_90 q5_91 q1_27 q5_92) rfl rfl rfl (by decide +kernel) ⟨Nat.le_of_ble_eq_true rfl, Nat.le_of_ble_eq_true rfl⟩) (by decide) rfl rfl rfl rfl rfl rfl (Nat.le_of_ble_eq_true rfl) ⟨Nat.zero_le _, Nat.zero_le _⟩ dX11_stand_19 ?_
      obtain rfl := Sum.inl.inj (Option.some.inj hf)
      exact hret _ _ _ _ (Nat.zero_le _) (Nat.zero_le _) rfl dX11_stand_22
    · replace hf := sm_inr hf
      exact absurd hf (by simp)
  · replace hf := sm_inr hf
    exact absurd hf (by simp)
set_option maxHeartbeats 4000000 in
set_option maxRecDepth 100000 in
theorem x_X11_stand (l : Launch) (hlt : l.stackTraces = false) (D : va_G) (y : Nat → ClassId) (ek : EK) (n : Nat) (a0 : Nat → Nat) (a1 : Nat → Nat) (z0_tape : Nat) (z0_tokens : Nat) (z0_hillReader : Nat) (z0_lawReader : Nat) (z0_rules : Nat) (z0_diary : Nat) (z0_spare : Nat) (z0_draft : Nat) (z0_spareDiary : Nat) (z0_guess : Nat) (z0_past : Nat) (z0_imageHill : Nat) (z0_imageRules : Nat) (z0_imageDiary : Nat) (v0 : St) (v1 : St) (x1 : Int32) (x2 : Int32) (res : Nat) (hf : m_X11_stand n v0 v1 x1 x2 = some (Sum.inr res)) : CX l yX11_stand wX11_stand { frames := 7, cells := 1, slots := 6, locals := 104 } D y ek [.ref (a0 0), .int x1, .int x2] [bX11 y a0 z0_tape z0_tokens z0_hillReader z0_lawReader (a1 0) z0_rules z0_diary z0_spare z0_draft z0_spareDiary z0_guess z0_past z0_imageHill z0_imageRules z0_imageDiary v0, bX3 y a1 v1] (eX.getD res "") [bX11 y a0 z0_tape z0_tokens z0_hillReader z0_lawReader (a1 0) z0_rules z0_diary z0_spare z0_draft z0_spareDiary z0_guess z0_past z0_imageHill z0_imageRules z0_imageDiary v0, bX3 y a1 v1] 1 6 := by
  unfold m_X11_stand at hf
  refine cx_of (cc := cX11_stand) (maxL := 3) hlt (by decide) rfl (Nat.le_of_ble_eq_true rfl) (Nat.le_refl 1) (Nat.le_refl 6) ?_
  intro p e s m below meth c Q A F hthr hout
  refine a_lv (lv' := [(0, .ref (a0 0)), (1, .int x1), (2, .int x2)]) rfl ?_
  refine a_aloadn (pc := 0) (j := 0) F dX11_stand_0 rfl rfl ?_
  refine a_iloadn (pc := 1) (j := 1) F dX11_stand_1 rfl rfl ?_
  obtain ⟨t1, ht1a, hf⟩ := bd_some hf
  rcases t1 with t1a | t1x
  · replace hf := sm_inl hf
    refine a_callVv (pc := 2) (bs' := [bX11 y a0 z0_tape z0_tokens z0_hillReader z0_lawReader (a1 0) z0_rules z0_diary z0_spare z0_draft z0_spareDiary z0_guess z0_past z0_imageHill z0_imageRules z0_imageDiary v0, bX3 y a1 v1]) (kb := 0) (j := 0) F [0, 1] (c_X11_checkPlank l D y ek n a0 a1 z0_tape z0_tokens z0_hillReader z0_lawReader z0_rules z0_diary z0_spare z0_draft z0_spareDiary z0_guess z0_past z0_imageHill z0_imageRules z0_imageDiary _ _ _ _ ht1a) (cwV 1 F.1.2.2.2.2 (gV q4_153 q4_155 qs_17 q1_1 q4_156) rfl rfl rfl (by decide +kernel) ⟨Nat.le_of_ble_eq_true rfl, Nat.le_of_ble_eq_true rfl⟩) rfl rfl rfl rfl (by decide) rfl rfl rfl rfl rfl rfl (Nat.le_of_ble_eq_true rfl) ⟨Nat.zero_le _, Nat.zero_le _⟩ dX11_stand_2 ?_
    refine a_iloadn (pc := 5) (j := 2) F dX11_stand_5 rfl rfl ?_
    refine a_bipush (pc := 6) F dX11_stand_6 kb_m5 ?_
    refine a_iconst (pc := 8) F dX11_stand_8 kc_5 ?_
    obtain ⟨t2, ht2a, hf⟩ := bd_some hf
    rcases t2 with t2a | t2x
    · replace hf := sm_inl hf
      refine a_callSv (pc := 9) (bs' := [bX11 y a0 z0_tape z0_tokens z0_hillReader z0_lawReader (a1 0) z0_rules z0_diary z0_spare z0_draft z0_spareDiary z0_guess z0_past z0_imageHill z0_imageRules z0_imageDiary v0, bX3 y a1 v1]) F [] (c_X11_checkNumber l D y ek n  _ _ _ _ ht2a) (va_cwS 3 F.1.2.2.2.2 (gS q5_19 q5_20 q1_1 q5_21) rfl rfl rfl (by decide +kernel) ⟨Nat.le_of_ble_eq_true rfl, Nat.le_of_ble_eq_true rfl⟩) (by decide) rfl rfl rfl rfl rfl rfl (Nat.le_of_ble_eq_true rfl) ⟨Nat.zero_le _, Nat.zero_le _⟩ dX11_stand_9 ?_
      refine a_aloadn (pc := 12) (j := 0) F dX11_stand_12 rfl rfl ?_
      refine a_get (pc := 13) (kb := 0) (j := 0) (f := 7) F iW_X11 rfl rfl rfl (by decide) (tl q2_63) (fun _ h => h) rfl dX11_stand_13 ?_
      refine a_iloadn (pc := 16) (j := 1) F dX11_stand_16 rfl rfl ?_
      refine a_iloadn (pc := 17) (j := 2) F dX11_stand_17 rfl rfl ?_
      refine a_iconst (pc := 18) F dX11_stand_18 kc_0 ?_
      obtain ⟨t3, ht3, hf⟩ := bd_some hf
      refine a_callS (pc := 19) (bs' := [bX11 y a0 z0_tape z0_tokens z0_hillReader z0_lawReader (a1 0) z0_rules z0_diary z0_spare z0_draft z0_spareDiary z0_guess z0_past z0_imageHill z0_imageRules z0_imageDiary v0, bX3 y a1 v1]) F [1] (c_X0_leastSet l D y ek n a1 _ _ _ _ _ ht3) (va_cwS 4 F.1.2.2.2.2 (gS q5_90 q5_91 q1_27 q5_92) rfl rfl rfl (by decide +kernel) ⟨Nat.le_of_ble_eq_true rfl, Nat.le_of_ble_eq_true rfl⟩) (by decide) rfl rfl rfl rfl rfl rfl (Nat.le_of_ble_eq_true rfl) ⟨Nat.zero_le _, Nat.zero_le _⟩ dX11_stand_19 ?_
      exact absurd hf (by simp)
    · replace hf := sm_inr hf
      obtain rfl := Sum.inr.inj (Option.some.inj hf)
      exact a_callSx (pc := 9) (bs' := [bX11 y a0 z0_tape z0_tokens z0_hillReader z0_lawReader (a1 0) z0_rules z0_diary z0_spare z0_draft z0_spareDiary z0_guess z0_past z0_imageHill z0_imageRules z0_imageDiary v0, bX3 y a1 v1]) F [] (x_X11_checkNumber l hlt D y ek n  _ _ _ _ ht2a) (va_cwS 3 F.1.2.2.2.2 (gS q5_19 q5_20 q1_1 q5_21) rfl rfl rfl (by decide +kernel) ⟨Nat.le_of_ble_eq_true rfl, Nat.le_of_ble_eq_true rfl⟩) (by decide) rfl rfl rfl rfl rfl rfl (Nat.le_of_ble_eq_true rfl) ⟨Nat.le_of_ble_eq_true rfl, Nat.le_of_ble_eq_true rfl⟩ dX11_stand_9 (fun H1 locs1 ls q9 ce h1 h2 h3 h4 h5 h6 h7 => hout H1 locs1 ls _ _ _ _ q9 ce h1 h2 h3 (Nat.le_of_ble_eq_true rfl) (Nat.le_of_ble_eq_true rfl) h5 h6 h7)
  · replace hf := sm_inr hf
    obtain rfl := Sum.inr.inj (Option.some.inj hf)
    exact a_callVx (pc := 2) (bs' := [bX11 y a0 z0_tape z0_tokens z0_hillReader z0_lawReader (a1 0) z0_rules z0_diary z0_spare z0_draft z0_spareDiary z0_guess z0_past z0_imageHill z0_imageRules z0_imageDiary v0, bX3 y a1 v1]) (kb := 0) (j := 0) F [0, 1] (x_X11_checkPlank l hlt D y ek n a0 a1 z0_tape z0_tokens z0_hillReader z0_lawReader z0_rules z0_diary z0_spare z0_draft z0_spareDiary z0_guess z0_past z0_imageHill z0_imageRules z0_imageDiary _ _ _ _ ht1a) (cwV 1 F.1.2.2.2.2 (gV q4_153 q4_155 qs_17 q1_1 q4_156) rfl rfl rfl (by decide +kernel) ⟨Nat.le_of_ble_eq_true rfl, Nat.le_of_ble_eq_true rfl⟩) rfl rfl rfl rfl (by decide) rfl rfl rfl rfl rfl rfl (Nat.le_of_ble_eq_true rfl) ⟨Nat.le_of_ble_eq_true rfl, Nat.le_of_ble_eq_true rfl⟩ dX11_stand_2 (fun H1 locs1 ls q9 ce h1 h2 h3 h4 h5 h6 h7 => hout H1 locs1 ls _ _ _ _ q9 ce h1 h2 h3 (Nat.le_of_ble_eq_true rfl) (Nat.le_of_ble_eq_true rfl) h5 h6 h7)

abbrev wX11_heave : List Cond := Cond.code yX11_heave cX11_heave 5 (some .int) :: WALL
def m_X11_heave (n : Nat) (v0 : St) (v1 : St) (x1 : Int32) (x2 : Int32) (x3 : Int32) : Option ((Int32) ⊕ (Nat)) :=
bd (m_X11_checkPlank n v0 v1 x1) (fun t1 => sm t1 (fun t1a =>
bd (m_X11_checkNumber n x2 (-5) 5) (fun t2 => sm t2 (fun t2a =>
bd (m_X0_leastSet n v1 x1 x2 1) (fun t3 =>
jn (fun (t4 : Unit) =>
some (Sum.inl t3)) (fun (K4 : Unit → Option ((Int32) ⊕ (Nat))) =>
(if x3 = 0 then
K4 ()
else
(if t3 = (-1) then
K4 ()
else
bd (m_X3_weightOf n v1 t3) (fun t5 =>
some (Sum.inl t5))))))) (fun t2x => some (Sum.inr t2x)))) (fun t1x => some (Sum.inr t1x)))
set_option maxHeartbeats 4000000 in
set_option maxRecDepth 100000 in
theorem c_X11_heave (l : Launch) (D : va_G) (y : Nat → ClassId) (ek : EK) (n : Nat) (a0 : Nat → Nat) (a1 : Nat → Nat) (z0_tape : Nat) (z0_tokens : Nat) (z0_hillReader : Nat) (z0_lawReader : Nat) (z0_rules : Nat) (z0_diary : Nat) (z0_spare : Nat) (z0_draft : Nat) (z0_spareDiary : Nat) (z0_guess : Nat) (z0_past : Nat) (z0_imageHill : Nat) (z0_imageRules : Nat) (z0_imageDiary : Nat) (v0 : St) (v1 : St) (x1 : Int32) (x2 : Int32) (x3 : Int32) (res : Int32) (hf : m_X11_heave n v0 v1 x1 x2 x3 = some (Sum.inl res)) : CI l yX11_heave wX11_heave { frames := 7, cells := 0, slots := 0, locals := 104 } D y ek [.ref (a0 0), .int x1, .int x2, .int x3] [bX11 y a0 z0_tape z0_tokens z0_hillReader z0_lawReader (a1 0) z0_rules z0_diary z0_spare z0_draft z0_spareDiary z0_guess z0_past z0_imageHill z0_imageRules z0_imageDiary v0, bX3 y a1 v1] (res) [bX11 y a0 z0_tape z0_tokens z0_hillReader z0_lawReader (a1 0) z0_rules z0_diary z0_spare z0_draft z0_spareDiary z0_guess z0_past z0_imageHill z0_imageRules z0_imageDiary v0, bX3 y a1 v1] 0 0 := by
  unfold m_X11_heave at hf
  refine ci_of (cc := cX11_heave) (maxL := 5) (by decide) rfl rfl (Nat.le_of_ble_eq_true rfl) ?_
  intro p e s m below meth c Q A F hret
  refine a_lv (lv' := [(0, .ref (a0 0)), (1, .int x1), (2, .int x2), (3, .int x3)]) rfl ?_
  refine a_aloadn (pc := 0) (j := 0) F dX11_heave_0 rfl rfl ?_
  refine a_iloadn (pc := 1) (j := 1) F dX11_heave_1 rfl rfl ?_
  obtain ⟨t1, ht1a, hf⟩ := bd_some hf
  rcases t1 with t1a | t1x
  · replace hf := sm_inl hf
    refine a_callVv (pc := 2) (bs' := [bX11 y a0 z0_tape z0_tokens z0_hillReader z0_lawReader (a1 0) z0_rules z0_diary z0_spare z0_draft z0_spareDiary z0_guess z0_past z0_imageHill z0_imageRules z0_imageDiary v0, bX3 y a1 v1]) (kb := 0) (j := 0) F [0, 1] (c_X11_checkPlank l D y ek n a0 a1 z0_tape z0_tokens z0_hillReader z0_lawReader z0_rules z0_diary z0_spare z0_draft z0_spareDiary z0_guess z0_past z0_imageHill z0_imageRules z0_imageDiary _ _ _ _ ht1a) (cwV 1 F.1.2.2.2.2 (gV q4_153 q4_155 qs_17 q1_1 q4_156) rfl rfl rfl (by decide +kernel) ⟨Nat.le_of_ble_eq_true rfl, Nat.le_of_ble_eq_true rfl⟩) rfl rfl rfl rfl (by decide) rfl rfl rfl rfl rfl rfl (Nat.le_of_ble_eq_true rfl) ⟨Nat.zero_le _, Nat.zero_le _⟩ dX11_heave_2 ?_
    refine a_iloadn (pc := 5) (j := 2) F dX11_heave_5 rfl rfl ?_
    refine a_bipush (pc := 6) F dX11_heave_6 kb_m5 ?_
    refine a_iconst (pc := 8) F dX11_heave_8 kc_5 ?_
    obtain ⟨t2, ht2a, hf⟩ := bd_some hf
    rcases t2 with t2a | t2x
    · replace hf := sm_inl hf
      refine a_callSv (pc := 9) (bs' := [bX11 y a0 z0_tape z0_tokens z0_hillReader z0_lawReader (a1 0) z0_rules z0_diary z0_spare z0_draft z0_spareDiary z0_guess z0_past z0_imageHill z0_imageRules z0_imageDiary v0, bX3 y a1 v1]) F [] (c_X11_checkNumber l D y ek n  _ _ _ _ ht2a) (va_cwS 3 F.1.2.2.2.2 (gS q5_19 q5_20 q1_1 q5_21) rfl rfl rfl (by decide +kernel) ⟨Nat.le_of_ble_eq_true rfl, Nat.le_of_ble_eq_true rfl⟩) (by decide) rfl rfl rfl rfl rfl rfl (Nat.le_of_ble_eq_true rfl) ⟨Nat.zero_le _, Nat.zero_le _⟩ dX11_heave_9 ?_
      refine a_aloadn (pc := 12) (j := 0) F dX11_heave_12 rfl rfl ?_
      refine a_get (pc := 13) (kb := 0) (j := 0) (f := 7) F iW_X11 rfl rfl rfl (by decide) (tl q2_63) (fun _ h => h) rfl dX11_heave_13 ?_
      refine a_iloadn (pc := 16) (j := 1) F dX11_heave_16 rfl rfl ?_
      refine a_iloadn (pc := 17) (j := 2) F dX11_heave_17 rfl rfl ?_
      refine a_iconst (pc := 18) F dX11_heave_18 kc_1 ?_
      obtain ⟨t3, ht3, hf⟩ := bd_some hf
      refine a_callS (pc := 19) (bs' := [bX11 y a0 z0_tape z0_tokens z0_hillReader z0_lawReader (a1 0) z0_rules z0_diary z0_spare z0_draft z0_spareDiary z0_guess z0_past z0_imageHill z0_imageRules z0_imageDiary v0, bX3 y a1 v1]) F [1] (c_X0_leastSet l D y ek n a1 _ _ _ _ _ ht3) (va_cwS 4 F.1.2.2.2.2 (gS q5_90 q5_91 q1_27 q5_92) rfl rfl rfl (by decide +kernel) ⟨Nat.le_of_ble_eq_true rfl, Nat.le_of_ble_eq_true rfl⟩) (by decide) rfl rfl rfl rfl rfl rfl (Nat.le_of_ble_eq_true rfl) ⟨Nat.zero_le _, Nat.zero_le _⟩ dX11_heave_19 ?_
      refine a_istore (pc := 22) (lv' := [(0, .ref (a0 0)), (1, .int x1), (2, .int x2), (3, .int x3), (4, .int t3)]) F [1, 2, 3, 4, 0] dX11_heave_22 (by decide) rfl ?_
      refine a_iloadn (pc := 24) (j := 3) F dX11_heave_24 rfl rfl ?_
      refine a_jn 46 (fun (t4 : Unit) => [(4, .int t3)]) (fun (t4 : Unit) => []) (fun (t4 : Unit) => [bX11 y a0 z0_tape z0_tokens z0_hillReader z0_lawReader (a1 0) z0_rules z0_diary z0_spare z0_draft z0_spareDiary z0_guess z0_past z0_imageHill z0_imageRules z0_imageDiary v0, bX3 y a1 v1]) hf (fun t4 hf => ?_) (fun K4 hK4 hf => ?_)
      · try dsimp only at hf ⊢
        refine a_iload (pc := 46) (j := 0) F dX11_heave_46 rfl ?_
        obtain rfl := Sum.inl.inj (Option.some.inj hf)
        exact hret _ _ _ _ (Nat.zero_le _) (Nat.zero_le _) rfl dX11_heave_48
      · try dsimp only at hf
        refine a_if_eq (pc := 25) (tgt := 46) F dX11_heave_25 (by decide) (fun h => ?_) (fun h => ?_)
        · replace hf := it_pos h hf
          refine a_sub [4] rfl ?_
          exact hK4 () hf
        · replace hf := it_neg h hf
          refine a_iload (pc := 28) (j := 4) F dX11_heave_28 rfl ?_
          refine a_iconst (pc := 30) F dX11_heave_30 kc_m1 ?_
          refine a_icmp_eq (pc := 31) (tgt := 46) F dX11_heave_31 (by decide) (fun h => ?_) (fun h => ?_)
          · replace hf := it_pos h hf
            refine a_sub [4] rfl ?_
            exact hK4 () hf
          · replace hf := it_neg h hf
            refine a_aloadn (pc := 34) (j := 0) F dX11_heave_34 rfl rfl ?_
            refine a_get (pc := 35) (kb := 0) (j := 0) (f := 7) F iW_X11 rfl rfl rfl (by decide) (tl q2_63) (fun _ h => h) rfl dX11_heave_35 ?_
            refine a_iload (pc := 38) (j := 4) F dX11_heave_38 rfl ?_
            obtain ⟨t5, ht5, hf⟩ := bd_some hf
            refine a_callV (pc := 40) (bs' := [bX11 y a0 z0_tape z0_tokens z0_hillReader z0_lawReader (a1 0) z0_rules z0_diary z0_spare z0_draft z0_spareDiary z0_guess z0_past z0_imageHill z0_imageRules z0_imageDiary v0, bX3 y a1 v1]) (kb := 1) (j := 0) F [1] (c_X3_weightOf l D y ek n a1 _ _ _ ht5) (cwV 1 F.1.2.2.2.2 (gV q5_112 q5_96 q5_97 q1_3 q5_98) rfl rfl rfl (by decide +kernel) ⟨Nat.le_of_ble_eq_true rfl, Nat.le_of_ble_eq_true rfl⟩) rfl rfl rfl rfl (by decide) rfl rfl rfl rfl rfl rfl (Nat.le_of_ble_eq_true rfl) ⟨Nat.zero_le _, Nat.zero_le _⟩ dX11_heave_40 ?_
            refine a_goto (pc := 43) (tgt := 48) F dX11_heave_43 (by decide) ?_
            obtain rfl := Sum.inl.inj (Option.some.inj hf)
            exact hret _ _ _ _ (Nat.zero_le _) (Nat.zero_le _) rfl dX11_heave_48
    · replace hf := sm_inr hf
      exact absurd hf (by simp)
  · replace hf := sm_inr hf
    exact absurd hf (by simp)
set_option maxHeartbeats 4000000 in
set_option maxRecDepth 100000 in
theorem x_X11_heave (l : Launch) (hlt : l.stackTraces = false) (D : va_G) (y : Nat → ClassId) (ek : EK) (n : Nat) (a0 : Nat → Nat) (a1 : Nat → Nat) (z0_tape : Nat) (z0_tokens : Nat) (z0_hillReader : Nat) (z0_lawReader : Nat) (z0_rules : Nat) (z0_diary : Nat) (z0_spare : Nat) (z0_draft : Nat) (z0_spareDiary : Nat) (z0_guess : Nat) (z0_past : Nat) (z0_imageHill : Nat) (z0_imageRules : Nat) (z0_imageDiary : Nat) (v0 : St) (v1 : St) (x1 : Int32) (x2 : Int32) (x3 : Int32) (res : Nat) (hf : m_X11_heave n v0 v1 x1 x2 x3 = some (Sum.inr res)) : CX l yX11_heave wX11_heave { frames := 7, cells := 1, slots := 6, locals := 104 } D y ek [.ref (a0 0), .int x1, .int x2, .int x3] [bX11 y a0 z0_tape z0_tokens z0_hillReader z0_lawReader (a1 0) z0_rules z0_diary z0_spare z0_draft z0_spareDiary z0_guess z0_past z0_imageHill z0_imageRules z0_imageDiary v0, bX3 y a1 v1] (eX.getD res "") [bX11 y a0 z0_tape z0_tokens z0_hillReader z0_lawReader (a1 0) z0_rules z0_diary z0_spare z0_draft z0_spareDiary z0_guess z0_past z0_imageHill z0_imageRules z0_imageDiary v0, bX3 y a1 v1] 1 6 := by
  unfold m_X11_heave at hf
  refine cx_of (cc := cX11_heave) (maxL := 5) hlt (by decide) rfl (Nat.le_of_ble_eq_true rfl) (Nat.le_refl 1) (Nat.le_refl 6) ?_
  intro p e s m below meth c Q A F hthr hout
  refine a_lv (lv' := [(0, .ref (a0 0)), (1, .int x1), (2, .int x2), (3, .int x3)]) rfl ?_
  refine a_aloadn (pc := 0) (j := 0) F dX11_heave_0 rfl rfl ?_
  refine a_iloadn (pc := 1) (j := 1) F dX11_heave_1 rfl rfl ?_
  obtain ⟨t1, ht1a, hf⟩ := bd_some hf
  rcases t1 with t1a | t1x
  · replace hf := sm_inl hf
    refine a_callVv (pc := 2) (bs' := [bX11 y a0 z0_tape z0_tokens z0_hillReader z0_lawReader (a1 0) z0_rules z0_diary z0_spare z0_draft z0_spareDiary z0_guess z0_past z0_imageHill z0_imageRules z0_imageDiary v0, bX3 y a1 v1]) (kb := 0) (j := 0) F [0, 1] (c_X11_checkPlank l D y ek n a0 a1 z0_tape z0_tokens z0_hillReader z0_lawReader z0_rules z0_diary z0_spare z0_draft z0_spareDiary z0_guess z0_past z0_imageHill z0_imageRules z0_imageDiary _ _ _ _ ht1a) (cwV 1 F.1.2.2.2.2 (gV q4_153 q4_155 qs_17 q1_1 q4_156) rfl rfl rfl (by decide +kernel) ⟨Nat.le_of_ble_eq_true rfl, Nat.le_of_ble_eq_true rfl⟩) rfl rfl rfl rfl (by decide) rfl rfl rfl rfl rfl rfl (Nat.le_of_ble_eq_true rfl) ⟨Nat.zero_le _, Nat.zero_le _⟩ dX11_heave_2 ?_
    refine a_iloadn (pc := 5) (j := 2) F dX11_heave_5 rfl rfl ?_
    refine a_bipush (pc := 6) F dX11_heave_6 kb_m5 ?_
    refine a_iconst (pc := 8) F dX11_heave_8 kc_5 ?_
    obtain ⟨t2, ht2a, hf⟩ := bd_some hf
    rcases t2 with t2a | t2x
    · replace hf := sm_inl hf
      refine a_callSv (pc := 9) (bs' := [bX11 y a0 z0_tape z0_tokens z0_hillReader z0_lawReader (a1 0) z0_rules z0_diary z0_spare z0_draft z0_spareDiary z0_guess z0_past z0_imageHill z0_imageRules z0_imageDiary v0, bX3 y a1 v1]) F [] (c_X11_checkNumber l D y ek n  _ _ _ _ ht2a) (va_cwS 3 F.1.2.2.2.2 (gS q5_19 q5_20 q1_1 q5_21) rfl rfl rfl (by decide +kernel) ⟨Nat.le_of_ble_eq_true rfl, Nat.le_of_ble_eq_true rfl⟩) (by decide) rfl rfl rfl rfl rfl rfl (Nat.le_of_ble_eq_true rfl) ⟨Nat.zero_le _, Nat.zero_le _⟩ dX11_heave_9 ?_
      refine a_aloadn (pc := 12) (j := 0) F dX11_heave_12 rfl rfl ?_
      refine a_get (pc := 13) (kb := 0) (j := 0) (f := 7) F iW_X11 rfl rfl rfl (by decide) (tl q2_63) (fun _ h => h) rfl dX11_heave_13 ?_
      refine a_iloadn (pc := 16) (j := 1) F dX11_heave_16 rfl rfl ?_
      refine a_iloadn (pc := 17) (j := 2) F dX11_heave_17 rfl rfl ?_
      refine a_iconst (pc := 18) F dX11_heave_18 kc_1 ?_
      obtain ⟨t3, ht3, hf⟩ := bd_some hf
      refine a_callS (pc := 19) (bs' := [bX11 y a0 z0_tape z0_tokens z0_hillReader z0_lawReader (a1 0) z0_rules z0_diary z0_spare z0_draft z0_spareDiary z0_guess z0_past z0_imageHill z0_imageRules z0_imageDiary v0, bX3 y a1 v1]) F [1] (c_X0_leastSet l D y ek n a1 _ _ _ _ _ ht3) (va_cwS 4 F.1.2.2.2.2 (gS q5_90 q5_91 q1_27 q5_92) rfl rfl rfl (by decide +kernel) ⟨Nat.le_of_ble_eq_true rfl, Nat.le_of_ble_eq_true rfl⟩) (by decide) rfl rfl rfl rfl rfl rfl (Nat.le_of_ble_eq_true rfl) ⟨Nat.zero_le _, Nat.zero_le _⟩ dX11_heave_19 ?_
      refine a_istore (pc := 22) (lv' := [(0, .ref (a0 0)), (1, .int x1), (2, .int x2), (3, .int x3), (4, .int t3)]) F [1, 2, 3, 4, 0] dX11_heave_22 (by decide) rfl ?_
      refine a_iloadn (pc := 24) (j := 3) F dX11_heave_24 rfl rfl ?_
      refine a_jn 46 (fun (t4 : Unit) => [(4, .int t3)]) (fun (t4 : Unit) => []) (fun (t4 : Unit) => [bX11 y a0 z0_tape z0_tokens z0_hillReader z0_lawReader (a1 0) z0_rules z0_diary z0_spare z0_draft z0_spareDiary z0_guess z0_past z0_imageHill z0_imageRules z0_imageDiary v0, bX3 y a1 v1]) hf (fun t4 hf => ?_) (fun K4 hK4 hf => ?_)
      · try dsimp only at hf ⊢
        refine a_iload (pc := 46) (j := 0) F dX11_heave_46 rfl ?_
        exact absurd hf (by simp)
      · try dsimp only at hf
        refine a_if_eq (pc := 25) (tgt := 46) F dX11_heave_25 (by decide) (fun h => ?_) (fun h => ?_)
        · replace hf := it_pos h hf
          refine a_sub [4] rfl ?_
          exact hK4 () hf
        · replace hf := it_neg h hf
          refine a_iload (pc := 28) (j := 4) F dX11_heave_28 rfl ?_
          refine a_iconst (pc := 30) F dX11_heave_30 kc_m1 ?_
          refine a_icmp_eq (pc := 31) (tgt := 46) F dX11_heave_31 (by decide) (fun h => ?_) (fun h => ?_)
          · replace hf := it_pos h hf
            refine a_sub [4] rfl ?_
            exact hK4 () hf
          · replace hf := it_neg h hf
            refine a_aloadn (pc := 34) (j := 0) F dX11_heave_34 rfl rfl ?_
            refine a_get (pc := 35) (kb := 0) (j := 0) (f := 7) F iW_X11 rfl rfl rfl (by decide) (tl q2_63) (fun _ h => h) rfl dX11_heave_35 ?_
            refine a_iload (pc := 38) (j := 4) F dX11_heave_38 rfl ?_
            obtain ⟨t5, ht5, hf⟩ := bd_some hf
            refine a_callV (pc := 40) (bs' := [bX11 y a0 z0_tape z0_tokens z0_hillReader z0_lawReader (a1 0) z0_rules z0_diary z0_spare z0_draft z0_spareDiary z0_guess z0_past z0_imageHill z0_imageRules z0_imageDiary v0, bX3 y a1 v1]) (kb := 1) (j := 0) F [1] (c_X3_weightOf l D y ek n a1 _ _ _ ht5) (cwV 1 F.1.2.2.2.2 (gV q5_112 q5_96 q5_97 q1_3 q5_98) rfl rfl rfl (by decide +kernel) ⟨Nat.le_of_ble_eq_true rfl, Nat.le_of_ble_eq_true rfl⟩) rfl rfl rfl rfl (by decide) rfl rfl rfl rfl rfl rfl (Nat.le_of_ble_eq_true rfl) ⟨Nat.zero_le _, Nat.zero_le _⟩ dX11_heave_40 ?_
            refine a_goto (pc := 43) (tgt := 48) F dX11_heave_43 (by decide) ?_
            exact absurd hf (by simp)
    · replace hf := sm_inr hf
      obtain rfl := Sum.inr.inj (Option.some.inj hf)
      exact a_callSx (pc := 9) (bs' := [bX11 y a0 z0_tape z0_tokens z0_hillReader z0_lawReader (a1 0) z0_rules z0_diary z0_spare z0_draft z0_spareDiary z0_guess z0_past z0_imageHill z0_imageRules z0_imageDiary v0, bX3 y a1 v1]) F [] (x_X11_checkNumber l hlt D y ek n  _ _ _ _ ht2a) (va_cwS 3 F.1.2.2.2.2 (gS q5_19 q5_20 q1_1 q5_21) rfl rfl rfl (by decide +kernel) ⟨Nat.le_of_ble_eq_true rfl, Nat.le_of_ble_eq_true rfl⟩) (by decide) rfl rfl rfl rfl rfl rfl (Nat.le_of_ble_eq_true rfl) ⟨Nat.le_of_ble_eq_true rfl, Nat.le_of_ble_eq_true rfl⟩ dX11_heave_9 (fun H1 locs1 ls q9 ce h1 h2 h3 h4 h5 h6 h7 => hout H1 locs1 ls _ _ _ _ q9 ce h1 h2 h3 (Nat.le_of_ble_eq_true rfl) (Nat.le_of_ble_eq_true rfl) h5 h6 h7)
  · replace hf := sm_inr hf
    obtain rfl := Sum.inr.inj (Option.some.inj hf)
    exact a_callVx (pc := 2) (bs' := [bX11 y a0 z0_tape z0_tokens z0_hillReader z0_lawReader (a1 0) z0_rules z0_diary z0_spare z0_draft z0_spareDiary z0_guess z0_past z0_imageHill z0_imageRules z0_imageDiary v0, bX3 y a1 v1]) (kb := 0) (j := 0) F [0, 1] (x_X11_checkPlank l hlt D y ek n a0 a1 z0_tape z0_tokens z0_hillReader z0_lawReader z0_rules z0_diary z0_spare z0_draft z0_spareDiary z0_guess z0_past z0_imageHill z0_imageRules z0_imageDiary _ _ _ _ ht1a) (cwV 1 F.1.2.2.2.2 (gV q4_153 q4_155 qs_17 q1_1 q4_156) rfl rfl rfl (by decide +kernel) ⟨Nat.le_of_ble_eq_true rfl, Nat.le_of_ble_eq_true rfl⟩) rfl rfl rfl rfl (by decide) rfl rfl rfl rfl rfl rfl (Nat.le_of_ble_eq_true rfl) ⟨Nat.le_of_ble_eq_true rfl, Nat.le_of_ble_eq_true rfl⟩ dX11_heave_2 (fun H1 locs1 ls q9 ce h1 h2 h3 h4 h5 h6 h7 => hout H1 locs1 ls _ _ _ _ q9 ce h1 h2 h3 (Nat.le_of_ble_eq_true rfl) (Nat.le_of_ble_eq_true rfl) h5 h6 h7)

abbrev wX11_weeksToBreak : List Cond := Cond.code yX11_weeksToBreak cX11_weeksToBreak 3 (some .int) :: WALL
def m_X11_weeksToBreak (n : Nat) (v0 : St) (v1 : St) (v2 : St) (v3 : St) (x1 : Int32) : Option (Int32 × St × St) :=
(if ix x1 5 then (if (v1 12 (x1).toNatClampNeg) = 0 then
bd (m_X3_copyFrom n v3 v1) (fun t2 =>
lp (fun (rc3 : Int32 × St × St → Option (Int32 × St × St)) (x3l : Int32 × St × St) =>
(if 100 < x3l.1 then
some ((-1), x3l.2.1, x3l.2.2)
else
bd (m_X3_growOld n x3l.2.2 x3l.2.1 x1) (fun t4 =>
bd (m_X3_turnWeek n t4.1) (fun t5 =>
(if ix x1 5 then (if (t5 12 (x1).toNatClampNeg) = 0 then
rc3 ((x3l.1 + 1), t4.2, t5)
else
some (x3l.1, t4.2, t5)) else none))))) n (1, v2, t2))
else
some ((-1), v2, v3)) else none)
set_option maxHeartbeats 4000000 in
set_option maxRecDepth 100000 in
theorem c_X11_weeksToBreak (l : Launch) (D : va_G) (y : Nat → ClassId) (ek : EK) (n : Nat) (a0 : Nat → Nat) (a1 : Nat → Nat) (a2 : Nat → Nat) (a3 : Nat → Nat) (z0_tape : Nat) (z0_tokens : Nat) (z0_hillReader : Nat) (z0_lawReader : Nat) (z0_diary : Nat) (z0_draft : Nat) (z0_spareDiary : Nat) (z0_guess : Nat) (z0_past : Nat) (z0_imageHill : Nat) (z0_imageRules : Nat) (z0_imageDiary : Nat) (v0 : St) (v1 : St) (v2 : St) (v3 : St) (x1 : Int32) (res : Int32 × St × St) (hf : m_X11_weeksToBreak n v0 v1 v2 v3 x1 = some res) : CI l yX11_weeksToBreak wX11_weeksToBreak { frames := 5, cells := 0, slots := 0, locals := 120 } D y ek [.ref (a0 0), .int x1] [bX11 y a0 z0_tape z0_tokens z0_hillReader z0_lawReader (a1 0) (a2 0) z0_diary (a3 0) z0_draft z0_spareDiary z0_guess z0_past z0_imageHill z0_imageRules z0_imageDiary v0, bX3 y a1 v1, bX5 y a2 v2, bX3 y a3 v3] (res.1) [bX11 y a0 z0_tape z0_tokens z0_hillReader z0_lawReader (a1 0) (a2 0) z0_diary (a3 0) z0_draft z0_spareDiary z0_guess z0_past z0_imageHill z0_imageRules z0_imageDiary v0, bX3 y a1 v1, bX5 y a2 res.2.1, bX3 y a3 res.2.2] 0 0 := by
  unfold m_X11_weeksToBreak at hf
  refine ci_of (cc := cX11_weeksToBreak) (maxL := 3) (by decide) rfl rfl (Nat.le_of_ble_eq_true rfl) ?_
  intro p e s m below meth c Q A F hret
  refine a_lv (lv' := [(0, .ref (a0 0)), (1, .int x1)]) rfl ?_
  refine a_aloadn (pc := 0) (j := 0) F dX11_weeksToBreak_0 rfl rfl ?_
  refine a_get (pc := 1) (kb := 0) (j := 0) (f := 7) F iW_X11 rfl rfl rfl (by decide) (tl q2_63) (fun _ h => h) rfl dX11_weeksToBreak_1 ?_
  refine a_get (pc := 4) (kb := 1) (j := 0) (f := 12) F iW_X3 rfl rfl rfl (by decide) (tl q1_100) (fun _ h => h) rfl dX11_weeksToBreak_4 ?_
  refine a_iloadn (pc := 7) (j := 1) F dX11_weeksToBreak_7 rfl rfl ?_
  obtain ⟨h1, hf⟩ := gd_some hf
  refine a_zald (pc := 8) (kb := 1) (j := 4) F rfl rfl h1 dX11_weeksToBreak_8 ?_
  refine a_if_eq (pc := 9) (tgt := 14) F dX11_weeksToBreak_9 (by decide) (fun h => ?_) (fun h => ?_)
  · replace hf := it_pos h hf
    refine a_aloadn (pc := 14) (j := 0) F dX11_weeksToBreak_14 rfl rfl ?_
    refine a_get (pc := 15) (kb := 0) (j := 0) (f := 10) F iW_X11 rfl rfl rfl (by decide) (tl q2_66) (fun _ h => h) rfl dX11_weeksToBreak_15 ?_
    refine a_aloadn (pc := 18) (j := 0) F dX11_weeksToBreak_18 rfl rfl ?_
    refine a_get (pc := 19) (kb := 0) (j := 0) (f := 7) F iW_X11 rfl rfl rfl (by decide) (tl q2_63) (fun _ h => h) rfl dX11_weeksToBreak_19 ?_
    obtain ⟨t2, ht2, hf⟩ := bd_some hf
    refine a_callVv (pc := 22) (bs' := [bX11 y a0 z0_tape z0_tokens z0_hillReader z0_lawReader (a1 0) (a2 0) z0_diary (a3 0) z0_draft z0_spareDiary z0_guess z0_past z0_imageHill z0_imageRules z0_imageDiary v0, bX3 y a1 v1, bX5 y a2 v2, bX3 y a3 t2]) (kb := 3) (j := 0) F [3, 1] (c_X3_copyFrom l D y ek n a3 a1 _ _ _ ht2) (cwV 1 F.1.2.2.2.2 (gV q2_197 q2_142 q2_143 q1_3 q2_144) rfl rfl rfl (by decide +kernel) ⟨Nat.le_of_ble_eq_true rfl, Nat.le_of_ble_eq_true rfl⟩) rfl rfl rfl rfl (by decide) rfl rfl rfl rfl rfl rfl (Nat.le_of_ble_eq_true rfl) ⟨Nat.zero_le _, Nat.zero_le _⟩ dX11_weeksToBreak_22 ?_
    refine a_iconst (pc := 25) F dX11_weeksToBreak_25 kc_1 ?_
    refine a_istoren (pc := 26) (lv' := [(0, .ref (a0 0)), (1, .int x1), (2, .int 1)]) F [1, 2, 0] dX11_weeksToBreak_26 rfl (by decide) rfl ?_
    refine a_loop 27 (fun (x3l : Int32 × St × St) => [(0, .ref (a0 0)), (1, .int x1), (2, .int x3l.1)]) (fun (x3l : Int32 × St × St) => [bX11 y a0 z0_tape z0_tokens z0_hillReader z0_lawReader (a1 0) (a2 0) z0_diary (a3 0) z0_draft z0_spareDiary z0_guess z0_past z0_imageHill z0_imageRules z0_imageDiary v0, bX3 y a1 v1, bX5 y a2 x3l.2.1, bX3 y a3 x3l.2.2]) (fun rc3 x3l ih3 hf => ?_) hf rfl rfl
    try dsimp only at hf ⊢
    refine a_iloadn (pc := 27) (j := 2) F dX11_weeksToBreak_27 rfl rfl ?_
    refine a_bipush (pc := 28) F dX11_weeksToBreak_28 kb_100 ?_
    refine a_icmp_gt (pc := 30) (tgt := 72) F dX11_weeksToBreak_30 (by decide) (fun h => ?_) (fun h => ?_)
    · replace hf := it_pos h hf
      refine a_iconst (pc := 72) F dX11_weeksToBreak_72 kc_m1 ?_
      obtain rfl := Option.some.inj hf
      exact hret _ _ _ _ (Nat.zero_le _) (Nat.zero_le _) rfl dX11_weeksToBreak_73
    · replace hf := it_neg h hf
      refine a_aloadn (pc := 33) (j := 0) F dX11_weeksToBreak_33 rfl rfl ?_
      refine a_get (pc := 34) (kb := 0) (j := 0) (f := 10) F iW_X11 rfl rfl rfl (by decide) (tl q2_66) (fun _ h => h) rfl dX11_weeksToBreak_34 ?_
      refine a_aloadn (pc := 37) (j := 0) F dX11_weeksToBreak_37 rfl rfl ?_
      refine a_get (pc := 38) (kb := 0) (j := 0) (f := 8) F iW_X11 rfl rfl rfl (by decide) (tl q2_64) (fun _ h => h) rfl dX11_weeksToBreak_38 ?_
      refine a_iloadn (pc := 41) (j := 1) F dX11_weeksToBreak_41 rfl rfl ?_
      obtain ⟨t4, ht4, hf⟩ := bd_some hf
      refine a_callVv (pc := 42) (bs' := [bX11 y a0 z0_tape z0_tokens z0_hillReader z0_lawReader (a1 0) (a2 0) z0_diary (a3 0) z0_draft z0_spareDiary z0_guess z0_past z0_imageHill z0_imageRules z0_imageDiary v0, bX3 y a1 v1, bX5 y a2 t4.2, bX3 y a3 t4.1]) (kb := 3) (j := 0) F [3, 2] (c_X3_growOld l D y ek n a3 a2 _ _ _ _ ht4) (cwV 2 F.1.2.2.2.2 (gV q2_198 q2_199 q2_200 q1_3 q2_201) rfl rfl rfl (by decide +kernel) ⟨Nat.le_of_ble_eq_true rfl, Nat.le_of_ble_eq_true rfl⟩) rfl rfl rfl rfl (by decide) rfl rfl rfl rfl rfl rfl (Nat.le_of_ble_eq_true rfl) ⟨Nat.zero_le _, Nat.zero_le _⟩ dX11_weeksToBreak_42 ?_
      refine a_aloadn (pc := 45) (j := 0) F dX11_weeksToBreak_45 rfl rfl ?_
      refine a_get (pc := 46) (kb := 0) (j := 0) (f := 10) F iW_X11 rfl rfl rfl (by decide) (tl q2_66) (fun _ h => h) rfl dX11_weeksToBreak_46 ?_
      obtain ⟨t5, ht5, hf⟩ := bd_some hf
      refine a_callVv (pc := 49) (bs' := [bX11 y a0 z0_tape z0_tokens z0_hillReader z0_lawReader (a1 0) (a2 0) z0_diary (a3 0) z0_draft z0_spareDiary z0_guess z0_past z0_imageHill z0_imageRules z0_imageDiary v0, bX3 y a1 v1, bX5 y a2 t4.2, bX3 y a3 t5]) (kb := 3) (j := 0) F [3] (c_X3_turnWeek l D y ek n a3 _ _ ht5) (cwV 0 F.1.2.2.2.2 (gV q2_228 q2_229 q2_230 q1_3 q2_231) rfl rfl rfl (by decide +kernel) ⟨Nat.le_of_ble_eq_true rfl, Nat.le_of_ble_eq_true rfl⟩) rfl rfl rfl rfl (by decide) rfl rfl rfl rfl rfl rfl (Nat.le_of_ble_eq_true rfl) ⟨Nat.zero_le _, Nat.zero_le _⟩ dX11_weeksToBreak_49 ?_
      refine a_aloadn (pc := 52) (j := 0) F dX11_weeksToBreak_52 rfl rfl ?_
      refine a_get (pc := 53) (kb := 0) (j := 0) (f := 10) F iW_X11 rfl rfl rfl (by decide) (tl q2_66) (fun _ h => h) rfl dX11_weeksToBreak_53 ?_
      refine a_get (pc := 56) (kb := 3) (j := 0) (f := 12) F iW_X3 rfl rfl rfl (by decide) (tl q1_100) (fun _ h => h) rfl dX11_weeksToBreak_56 ?_
      refine a_iloadn (pc := 59) (j := 1) F dX11_weeksToBreak_59 rfl rfl ?_
      obtain ⟨h6, hf⟩ := gd_some hf
      refine a_zald (pc := 60) (kb := 3) (j := 4) F rfl rfl h6 dX11_weeksToBreak_60 ?_
      refine a_if_eq (pc := 61) (tgt := 66) F dX11_weeksToBreak_61 (by decide) (fun h => ?_) (fun h => ?_)
      · replace hf := it_pos h hf
        refine a_iinc (pc := 66) (j := 2) (v := (x3l.1 + 1)) (lv' := [(0, .ref (a0 0)), (1, .int x1), (2, .int (x3l.1 + 1))]) F [1, 2, 0] dX11_weeksToBreak_66 rfl ki_1 (by decide) rfl ?_
        refine a_goto (pc := 69) (tgt := 27) F dX11_weeksToBreak_69 (by decide) ?_
        exact ih3 ((x3l.1 + 1), t4.2, t5) hf
      · replace hf := it_neg h hf
        refine a_iloadn (pc := 64) (j := 2) F dX11_weeksToBreak_64 rfl rfl ?_
        obtain rfl := Option.some.inj hf
        exact hret _ _ _ _ (Nat.zero_le _) (Nat.zero_le _) rfl dX11_weeksToBreak_65
  · replace hf := it_neg h hf
    refine a_iconst (pc := 12) F dX11_weeksToBreak_12 kc_m1 ?_
    obtain rfl := Option.some.inj hf
    exact hret _ _ _ _ (Nat.zero_le _) (Nat.zero_le _) rfl dX11_weeksToBreak_13

abbrev wX11_breaks : List Cond := Cond.code yX11_breaks cX11_breaks 2 (some .int) :: WALL
def m_X11_breaks (n : Nat) (v0 : St) (v1 : St) (v2 : St) (v3 : St) (x1 : Int32) : Option ((Int32 × St × St) ⊕ (Nat × St × St)) :=
bd (m_X11_checkPlank n v0 v1 x1) (fun t1 => sm t1 (fun t1a =>
bd (m_X11_weeksToBreak n v0 v1 v2 v3 x1) (fun t2 =>
some (Sum.inl (t2.1, t2.2.1, t2.2.2)))) (fun t1x => some (Sum.inr (t1x, v2, v3))))
set_option maxHeartbeats 4000000 in
set_option maxRecDepth 100000 in
theorem c_X11_breaks (l : Launch) (D : va_G) (y : Nat → ClassId) (ek : EK) (n : Nat) (a0 : Nat → Nat) (a1 : Nat → Nat) (a2 : Nat → Nat) (a3 : Nat → Nat) (z0_tape : Nat) (z0_tokens : Nat) (z0_hillReader : Nat) (z0_lawReader : Nat) (z0_diary : Nat) (z0_draft : Nat) (z0_spareDiary : Nat) (z0_guess : Nat) (z0_past : Nat) (z0_imageHill : Nat) (z0_imageRules : Nat) (z0_imageDiary : Nat) (v0 : St) (v1 : St) (v2 : St) (v3 : St) (x1 : Int32) (res : Int32 × St × St) (hf : m_X11_breaks n v0 v1 v2 v3 x1 = some (Sum.inl res)) : CI l yX11_breaks wX11_breaks { frames := 7, cells := 0, slots := 0, locals := 142 } D y ek [.ref (a0 0), .int x1] [bX11 y a0 z0_tape z0_tokens z0_hillReader z0_lawReader (a1 0) (a2 0) z0_diary (a3 0) z0_draft z0_spareDiary z0_guess z0_past z0_imageHill z0_imageRules z0_imageDiary v0, bX3 y a1 v1, bX5 y a2 v2, bX3 y a3 v3] (res.1) [bX11 y a0 z0_tape z0_tokens z0_hillReader z0_lawReader (a1 0) (a2 0) z0_diary (a3 0) z0_draft z0_spareDiary z0_guess z0_past z0_imageHill z0_imageRules z0_imageDiary v0, bX3 y a1 v1, bX5 y a2 res.2.1, bX3 y a3 res.2.2] 0 0 := by
  unfold m_X11_breaks at hf
  refine ci_of (cc := cX11_breaks) (maxL := 2) (by decide) rfl rfl (Nat.le_of_ble_eq_true rfl) ?_
  intro p e s m below meth c Q A F hret
  refine a_lv (lv' := [(0, .ref (a0 0)), (1, .int x1)]) rfl ?_
  refine a_aloadn (pc := 0) (j := 0) F dX11_breaks_0 rfl rfl ?_
  refine a_iloadn (pc := 1) (j := 1) F dX11_breaks_1 rfl rfl ?_
  obtain ⟨t1, ht1a, hf⟩ := bd_some hf
  rcases t1 with t1a | t1x
  · replace hf := sm_inl hf
    refine a_callVv (pc := 2) (bs' := [bX11 y a0 z0_tape z0_tokens z0_hillReader z0_lawReader (a1 0) (a2 0) z0_diary (a3 0) z0_draft z0_spareDiary z0_guess z0_past z0_imageHill z0_imageRules z0_imageDiary v0, bX3 y a1 v1, bX5 y a2 v2, bX3 y a3 v3]) (kb := 0) (j := 0) F [0, 1] (c_X11_checkPlank l D y ek n a0 a1 z0_tape z0_tokens z0_hillReader z0_lawReader (a2 0) z0_diary (a3 0) z0_draft z0_spareDiary z0_guess z0_past z0_imageHill z0_imageRules z0_imageDiary _ _ _ _ ht1a) (cwV 1 F.1.2.2.2.2 (gV q4_153 q4_155 qs_17 q1_1 q4_156) rfl rfl rfl (by decide +kernel) ⟨Nat.le_of_ble_eq_true rfl, Nat.le_of_ble_eq_true rfl⟩) rfl rfl rfl rfl (by decide) rfl rfl rfl rfl rfl rfl (Nat.le_of_ble_eq_true rfl) ⟨Nat.zero_le _, Nat.zero_le _⟩ dX11_breaks_2 ?_
    refine a_aloadn (pc := 5) (j := 0) F dX11_breaks_5 rfl rfl ?_
    refine a_iloadn (pc := 6) (j := 1) F dX11_breaks_6 rfl rfl ?_
    obtain ⟨t2, ht2, hf⟩ := bd_some hf
    refine a_callV (pc := 7) (bs' := [bX11 y a0 z0_tape z0_tokens z0_hillReader z0_lawReader (a1 0) (a2 0) z0_diary (a3 0) z0_draft z0_spareDiary z0_guess z0_past z0_imageHill z0_imageRules z0_imageDiary v0, bX3 y a1 v1, bX5 y a2 t2.2.1, bX3 y a3 t2.2.2]) (kb := 0) (j := 0) F [0, 1, 2, 3] (c_X11_weeksToBreak l D y ek n a0 a1 a2 a3 z0_tape z0_tokens z0_hillReader z0_lawReader z0_diary z0_draft z0_spareDiary z0_guess z0_past z0_imageHill z0_imageRules z0_imageDiary _ _ _ _ _ _ ht2) (cwV 1 F.1.2.2.2.2 (gV q2_193 q2_195 qs_1 q1_1 q2_196) rfl rfl rfl (by decide +kernel) ⟨Nat.le_of_ble_eq_true rfl, Nat.le_of_ble_eq_true rfl⟩) rfl rfl rfl rfl (by decide) rfl rfl rfl rfl rfl rfl (Nat.le_of_ble_eq_true rfl) ⟨Nat.zero_le _, Nat.zero_le _⟩ dX11_breaks_7 ?_
    obtain rfl := Sum.inl.inj (Option.some.inj hf)
    exact hret _ _ _ _ (Nat.zero_le _) (Nat.zero_le _) rfl dX11_breaks_10
  · replace hf := sm_inr hf
    exact absurd hf (by simp)
set_option maxHeartbeats 4000000 in
set_option maxRecDepth 100000 in
theorem x_X11_breaks (l : Launch) (hlt : l.stackTraces = false) (D : va_G) (y : Nat → ClassId) (ek : EK) (n : Nat) (a0 : Nat → Nat) (a1 : Nat → Nat) (a2 : Nat → Nat) (a3 : Nat → Nat) (z0_tape : Nat) (z0_tokens : Nat) (z0_hillReader : Nat) (z0_lawReader : Nat) (z0_diary : Nat) (z0_draft : Nat) (z0_spareDiary : Nat) (z0_guess : Nat) (z0_past : Nat) (z0_imageHill : Nat) (z0_imageRules : Nat) (z0_imageDiary : Nat) (v0 : St) (v1 : St) (v2 : St) (v3 : St) (x1 : Int32) (res : Nat × St × St) (hf : m_X11_breaks n v0 v1 v2 v3 x1 = some (Sum.inr res)) : CX l yX11_breaks wX11_breaks { frames := 7, cells := 1, slots := 6, locals := 142 } D y ek [.ref (a0 0), .int x1] [bX11 y a0 z0_tape z0_tokens z0_hillReader z0_lawReader (a1 0) (a2 0) z0_diary (a3 0) z0_draft z0_spareDiary z0_guess z0_past z0_imageHill z0_imageRules z0_imageDiary v0, bX3 y a1 v1, bX5 y a2 v2, bX3 y a3 v3] (eX.getD res.1 "") [bX11 y a0 z0_tape z0_tokens z0_hillReader z0_lawReader (a1 0) (a2 0) z0_diary (a3 0) z0_draft z0_spareDiary z0_guess z0_past z0_imageHill z0_imageRules z0_imageDiary v0, bX3 y a1 v1, bX5 y a2 res.2.1, bX3 y a3 res.2.2] 1 6 := by
  unfold m_X11_breaks at hf
  refine cx_of (cc := cX11_breaks) (maxL := 2) hlt (by decide) rfl (Nat.le_of_ble_eq_true rfl) (Nat.le_refl 1) (Nat.le_refl 6) ?_
  intro p e s m below meth c Q A F hthr hout
  refine a_lv (lv' := [(0, .ref (a0 0)), (1, .int x1)]) rfl ?_
  refine a_aloadn (pc := 0) (j := 0) F dX11_breaks_0 rfl rfl ?_
  refine a_iloadn (pc := 1) (j := 1) F dX11_breaks_1 rfl rfl ?_
  obtain ⟨t1, ht1a, hf⟩ := bd_some hf
  rcases t1 with t1a | t1x
  · replace hf := sm_inl hf
    refine a_callVv (pc := 2) (bs' := [bX11 y a0 z0_tape z0_tokens z0_hillReader z0_lawReader (a1 0) (a2 0) z0_diary (a3 0) z0_draft z0_spareDiary z0_guess z0_past z0_imageHill z0_imageRules z0_imageDiary v0, bX3 y a1 v1, bX5 y a2 v2, bX3 y a3 v3]) (kb := 0) (j := 0) F [0, 1] (c_X11_checkPlank l D y ek n a0 a1 z0_tape z0_tokens z0_hillReader z0_lawReader (a2 0) z0_diary (a3 0) z0_draft z0_spareDiary z0_guess z0_past z0_imageHill z0_imageRules z0_imageDiary _ _ _ _ ht1a) (cwV 1 F.1.2.2.2.2 (gV q4_153 q4_155 qs_17 q1_1 q4_156) rfl rfl rfl (by decide +kernel) ⟨Nat.le_of_ble_eq_true rfl, Nat.le_of_ble_eq_true rfl⟩) rfl rfl rfl rfl (by decide) rfl rfl rfl rfl rfl rfl (Nat.le_of_ble_eq_true rfl) ⟨Nat.zero_le _, Nat.zero_le _⟩ dX11_breaks_2 ?_
    refine a_aloadn (pc := 5) (j := 0) F dX11_breaks_5 rfl rfl ?_
    refine a_iloadn (pc := 6) (j := 1) F dX11_breaks_6 rfl rfl ?_
    obtain ⟨t2, ht2, hf⟩ := bd_some hf
    refine a_callV (pc := 7) (bs' := [bX11 y a0 z0_tape z0_tokens z0_hillReader z0_lawReader (a1 0) (a2 0) z0_diary (a3 0) z0_draft z0_spareDiary z0_guess z0_past z0_imageHill z0_imageRules z0_imageDiary v0, bX3 y a1 v1, bX5 y a2 t2.2.1, bX3 y a3 t2.2.2]) (kb := 0) (j := 0) F [0, 1, 2, 3] (c_X11_weeksToBreak l D y ek n a0 a1 a2 a3 z0_tape z0_tokens z0_hillReader z0_lawReader z0_diary z0_draft z0_spareDiary z0_guess z0_past z0_imageHill z0_imageRules z0_imageDiary _ _ _ _ _ _ ht2) (cwV 1 F.1.2.2.2.2 (gV q2_193 q2_195 qs_1 q1_1 q2_196) rfl rfl rfl (by decide +kernel) ⟨Nat.le_of_ble_eq_true rfl, Nat.le_of_ble_eq_true rfl⟩) rfl rfl rfl rfl (by decide) rfl rfl rfl rfl rfl rfl (Nat.le_of_ble_eq_true rfl) ⟨Nat.zero_le _, Nat.zero_le _⟩ dX11_breaks_7 ?_
    exact absurd hf (by simp)
  · replace hf := sm_inr hf
    obtain rfl := Sum.inr.inj (Option.some.inj hf)
    exact a_callVx (pc := 2) (bs' := [bX11 y a0 z0_tape z0_tokens z0_hillReader z0_lawReader (a1 0) (a2 0) z0_diary (a3 0) z0_draft z0_spareDiary z0_guess z0_past z0_imageHill z0_imageRules z0_imageDiary v0, bX3 y a1 v1, bX5 y a2 v2, bX3 y a3 v3]) (kb := 0) (j := 0) F [0, 1] (x_X11_checkPlank l hlt D y ek n a0 a1 z0_tape z0_tokens z0_hillReader z0_lawReader (a2 0) z0_diary (a3 0) z0_draft z0_spareDiary z0_guess z0_past z0_imageHill z0_imageRules z0_imageDiary _ _ _ _ ht1a) (cwV 1 F.1.2.2.2.2 (gV q4_153 q4_155 qs_17 q1_1 q4_156) rfl rfl rfl (by decide +kernel) ⟨Nat.le_of_ble_eq_true rfl, Nat.le_of_ble_eq_true rfl⟩) rfl rfl rfl rfl (by decide) rfl rfl rfl rfl rfl rfl (Nat.le_of_ble_eq_true rfl) ⟨Nat.le_of_ble_eq_true rfl, Nat.le_of_ble_eq_true rfl⟩ dX11_breaks_2 (fun H1 locs1 ls q9 ce h1 h2 h3 h4 h5 h6 h7 => hout H1 locs1 ls _ _ _ _ q9 ce h1 h2 h3 (Nat.le_of_ble_eq_true rfl) (Nat.le_of_ble_eq_true rfl) h5 h6 h7)

abbrev wX11_more : List Cond := Cond.code yX11_more cX11_more 2 (some .int) :: WALL
def m_X11_more (n : Nat) (v0 : St) (v1 : St) (x1 : Int32) : Option ((Int32) ⊕ (Nat)) :=
bd (m_X11_checkPlank n v0 v1 x1) (fun t1 => sm t1 (fun t1a =>
(if ix x1 5 then (if (v1 12 (x1).toNatClampNeg) = 0 then
bd (m_X3_bearsMore n v1 x1) (fun t3 =>
some (Sum.inl t3))
else
some (Sum.inl (-10000))) else none)) (fun t1x => some (Sum.inr t1x)))
set_option maxHeartbeats 4000000 in
set_option maxRecDepth 100000 in
theorem c_X11_more (l : Launch) (D : va_G) (y : Nat → ClassId) (ek : EK) (n : Nat) (a0 : Nat → Nat) (a1 : Nat → Nat) (z0_tape : Nat) (z0_tokens : Nat) (z0_hillReader : Nat) (z0_lawReader : Nat) (z0_rules : Nat) (z0_diary : Nat) (z0_spare : Nat) (z0_draft : Nat) (z0_spareDiary : Nat) (z0_guess : Nat) (z0_past : Nat) (z0_imageHill : Nat) (z0_imageRules : Nat) (z0_imageDiary : Nat) (v0 : St) (v1 : St) (x1 : Int32) (res : Int32) (hf : m_X11_more n v0 v1 x1 = some (Sum.inl res)) : CI l yX11_more wX11_more { frames := 7, cells := 0, slots := 0, locals := 103 } D y ek [.ref (a0 0), .int x1] [bX11 y a0 z0_tape z0_tokens z0_hillReader z0_lawReader (a1 0) z0_rules z0_diary z0_spare z0_draft z0_spareDiary z0_guess z0_past z0_imageHill z0_imageRules z0_imageDiary v0, bX3 y a1 v1] (res) [bX11 y a0 z0_tape z0_tokens z0_hillReader z0_lawReader (a1 0) z0_rules z0_diary z0_spare z0_draft z0_spareDiary z0_guess z0_past z0_imageHill z0_imageRules z0_imageDiary v0, bX3 y a1 v1] 0 0 := by
  unfold m_X11_more at hf
  refine ci_of (cc := cX11_more) (maxL := 2) (by decide) rfl rfl (Nat.le_of_ble_eq_true rfl) ?_
  intro p e s m below meth c Q A F hret
  refine a_lv (lv' := [(0, .ref (a0 0)), (1, .int x1)]) rfl ?_
  refine a_aloadn (pc := 0) (j := 0) F dX11_more_0 rfl rfl ?_
  refine a_iloadn (pc := 1) (j := 1) F dX11_more_1 rfl rfl ?_
  obtain ⟨t1, ht1a, hf⟩ := bd_some hf
  rcases t1 with t1a | t1x
  · replace hf := sm_inl hf
    refine a_callVv (pc := 2) (bs' := [bX11 y a0 z0_tape z0_tokens z0_hillReader z0_lawReader (a1 0) z0_rules z0_diary z0_spare z0_draft z0_spareDiary z0_guess z0_past z0_imageHill z0_imageRules z0_imageDiary v0, bX3 y a1 v1]) (kb := 0) (j := 0) F [0, 1] (c_X11_checkPlank l D y ek n a0 a1 z0_tape z0_tokens z0_hillReader z0_lawReader z0_rules z0_diary z0_spare z0_draft z0_spareDiary z0_guess z0_past z0_imageHill z0_imageRules z0_imageDiary _ _ _ _ ht1a) (cwV 1 F.1.2.2.2.2 (gV q4_153 q4_155 qs_17 q1_1 q4_156) rfl rfl rfl (by decide +kernel) ⟨Nat.le_of_ble_eq_true rfl, Nat.le_of_ble_eq_true rfl⟩) rfl rfl rfl rfl (by decide) rfl rfl rfl rfl rfl rfl (Nat.le_of_ble_eq_true rfl) ⟨Nat.zero_le _, Nat.zero_le _⟩ dX11_more_2 ?_
    refine a_aloadn (pc := 5) (j := 0) F dX11_more_5 rfl rfl ?_
    refine a_get (pc := 6) (kb := 0) (j := 0) (f := 7) F iW_X11 rfl rfl rfl (by decide) (tl q2_63) (fun _ h => h) rfl dX11_more_6 ?_
    refine a_get (pc := 9) (kb := 1) (j := 0) (f := 12) F iW_X3 rfl rfl rfl (by decide) (tl q1_100) (fun _ h => h) rfl dX11_more_9 ?_
    refine a_iloadn (pc := 12) (j := 1) F dX11_more_12 rfl rfl ?_
    obtain ⟨h2, hf⟩ := gd_some hf
    refine a_zald (pc := 13) (kb := 1) (j := 4) F rfl rfl h2 dX11_more_13 ?_
    refine a_if_eq (pc := 14) (tgt := 23) F dX11_more_14 (by decide) (fun h => ?_) (fun h => ?_)
    · replace hf := it_pos h hf
      refine a_aloadn (pc := 23) (j := 0) F dX11_more_23 rfl rfl ?_
      refine a_get (pc := 24) (kb := 0) (j := 0) (f := 7) F iW_X11 rfl rfl rfl (by decide) (tl q2_63) (fun _ h => h) rfl dX11_more_24 ?_
      refine a_iloadn (pc := 27) (j := 1) F dX11_more_27 rfl rfl ?_
      obtain ⟨t3, ht3, hf⟩ := bd_some hf
      refine a_callV (pc := 28) (bs' := [bX11 y a0 z0_tape z0_tokens z0_hillReader z0_lawReader (a1 0) z0_rules z0_diary z0_spare z0_draft z0_spareDiary z0_guess z0_past z0_imageHill z0_imageRules z0_imageDiary v0, bX3 y a1 v1]) (kb := 1) (j := 0) F [1] (c_X3_bearsMore l D y ek n a1 _ _ _ ht3) (cwV 1 F.1.2.2.2.2 (gV q5_127 q2_225 q2_226 q1_3 q2_227) rfl rfl rfl (by decide +kernel) ⟨Nat.le_of_ble_eq_true rfl, Nat.le_of_ble_eq_true rfl⟩) rfl rfl rfl rfl (by decide) rfl rfl rfl rfl rfl rfl (Nat.le_of_ble_eq_true rfl) ⟨Nat.zero_le _, Nat.zero_le _⟩ dX11_more_28 ?_
      obtain rfl := Sum.inl.inj (Option.some.inj hf)
      exact hret _ _ _ _ (Nat.zero_le _) (Nat.zero_le _) rfl dX11_more_31
    · replace hf := it_neg h hf
      refine a_sipush (pc := 17) F dX11_more_17 ks_m10000 ?_
      refine a_goto (pc := 20) (tgt := 31) F dX11_more_20 (by decide) ?_
      obtain rfl := Sum.inl.inj (Option.some.inj hf)
      exact hret _ _ _ _ (Nat.zero_le _) (Nat.zero_le _) rfl dX11_more_31
  · replace hf := sm_inr hf
    exact absurd hf (by simp)
set_option maxHeartbeats 4000000 in
set_option maxRecDepth 100000 in
theorem x_X11_more (l : Launch) (hlt : l.stackTraces = false) (D : va_G) (y : Nat → ClassId) (ek : EK) (n : Nat) (a0 : Nat → Nat) (a1 : Nat → Nat) (z0_tape : Nat) (z0_tokens : Nat) (z0_hillReader : Nat) (z0_lawReader : Nat) (z0_rules : Nat) (z0_diary : Nat) (z0_spare : Nat) (z0_draft : Nat) (z0_spareDiary : Nat) (z0_guess : Nat) (z0_past : Nat) (z0_imageHill : Nat) (z0_imageRules : Nat) (z0_imageDiary : Nat) (v0 : St) (v1 : St) (x1 : Int32) (res : Nat) (hf : m_X11_more n v0 v1 x1 = some (Sum.inr res)) : CX l yX11_more wX11_more { frames := 7, cells := 1, slots := 6, locals := 103 } D y ek [.ref (a0 0), .int x1] [bX11 y a0 z0_tape z0_tokens z0_hillReader z0_lawReader (a1 0) z0_rules z0_diary z0_spare z0_draft z0_spareDiary z0_guess z0_past z0_imageHill z0_imageRules z0_imageDiary v0, bX3 y a1 v1] (eX.getD res "") [bX11 y a0 z0_tape z0_tokens z0_hillReader z0_lawReader (a1 0) z0_rules z0_diary z0_spare z0_draft z0_spareDiary z0_guess z0_past z0_imageHill z0_imageRules z0_imageDiary v0, bX3 y a1 v1] 1 6 := by
  unfold m_X11_more at hf
  refine cx_of (cc := cX11_more) (maxL := 2) hlt (by decide) rfl (Nat.le_of_ble_eq_true rfl) (Nat.le_refl 1) (Nat.le_refl 6) ?_
  intro p e s m below meth c Q A F hthr hout
  refine a_lv (lv' := [(0, .ref (a0 0)), (1, .int x1)]) rfl ?_
  refine a_aloadn (pc := 0) (j := 0) F dX11_more_0 rfl rfl ?_
  refine a_iloadn (pc := 1) (j := 1) F dX11_more_1 rfl rfl ?_
  obtain ⟨t1, ht1a, hf⟩ := bd_some hf
  rcases t1 with t1a | t1x
  · replace hf := sm_inl hf
    refine a_callVv (pc := 2) (bs' := [bX11 y a0 z0_tape z0_tokens z0_hillReader z0_lawReader (a1 0) z0_rules z0_diary z0_spare z0_draft z0_spareDiary z0_guess z0_past z0_imageHill z0_imageRules z0_imageDiary v0, bX3 y a1 v1]) (kb := 0) (j := 0) F [0, 1] (c_X11_checkPlank l D y ek n a0 a1 z0_tape z0_tokens z0_hillReader z0_lawReader z0_rules z0_diary z0_spare z0_draft z0_spareDiary z0_guess z0_past z0_imageHill z0_imageRules z0_imageDiary _ _ _ _ ht1a) (cwV 1 F.1.2.2.2.2 (gV q4_153 q4_155 qs_17 q1_1 q4_156) rfl rfl rfl (by decide +kernel) ⟨Nat.le_of_ble_eq_true rfl, Nat.le_of_ble_eq_true rfl⟩) rfl rfl rfl rfl (by decide) rfl rfl rfl rfl rfl rfl (Nat.le_of_ble_eq_true rfl) ⟨Nat.zero_le _, Nat.zero_le _⟩ dX11_more_2 ?_
    refine a_aloadn (pc := 5) (j := 0) F dX11_more_5 rfl rfl ?_
    refine a_get (pc := 6) (kb := 0) (j := 0) (f := 7) F iW_X11 rfl rfl rfl (by decide) (tl q2_63) (fun _ h => h) rfl dX11_more_6 ?_
    refine a_get (pc := 9) (kb := 1) (j := 0) (f := 12) F iW_X3 rfl rfl rfl (by decide) (tl q1_100) (fun _ h => h) rfl dX11_more_9 ?_
    refine a_iloadn (pc := 12) (j := 1) F dX11_more_12 rfl rfl ?_
    obtain ⟨h2, hf⟩ := gd_some hf
    refine a_zald (pc := 13) (kb := 1) (j := 4) F rfl rfl h2 dX11_more_13 ?_
    refine a_if_eq (pc := 14) (tgt := 23) F dX11_more_14 (by decide) (fun h => ?_) (fun h => ?_)
    · replace hf := it_pos h hf
      refine a_aloadn (pc := 23) (j := 0) F dX11_more_23 rfl rfl ?_
      refine a_get (pc := 24) (kb := 0) (j := 0) (f := 7) F iW_X11 rfl rfl rfl (by decide) (tl q2_63) (fun _ h => h) rfl dX11_more_24 ?_
      refine a_iloadn (pc := 27) (j := 1) F dX11_more_27 rfl rfl ?_
      obtain ⟨t3, ht3, hf⟩ := bd_some hf
      refine a_callV (pc := 28) (bs' := [bX11 y a0 z0_tape z0_tokens z0_hillReader z0_lawReader (a1 0) z0_rules z0_diary z0_spare z0_draft z0_spareDiary z0_guess z0_past z0_imageHill z0_imageRules z0_imageDiary v0, bX3 y a1 v1]) (kb := 1) (j := 0) F [1] (c_X3_bearsMore l D y ek n a1 _ _ _ ht3) (cwV 1 F.1.2.2.2.2 (gV q5_127 q2_225 q2_226 q1_3 q2_227) rfl rfl rfl (by decide +kernel) ⟨Nat.le_of_ble_eq_true rfl, Nat.le_of_ble_eq_true rfl⟩) rfl rfl rfl rfl (by decide) rfl rfl rfl rfl rfl rfl (Nat.le_of_ble_eq_true rfl) ⟨Nat.zero_le _, Nat.zero_le _⟩ dX11_more_28 ?_
      exact absurd hf (by simp)
    · replace hf := it_neg h hf
      refine a_sipush (pc := 17) F dX11_more_17 ks_m10000 ?_
      refine a_goto (pc := 20) (tgt := 31) F dX11_more_20 (by decide) ?_
      exact absurd hf (by simp)
  · replace hf := sm_inr hf
    obtain rfl := Sum.inr.inj (Option.some.inj hf)
    exact a_callVx (pc := 2) (bs' := [bX11 y a0 z0_tape z0_tokens z0_hillReader z0_lawReader (a1 0) z0_rules z0_diary z0_spare z0_draft z0_spareDiary z0_guess z0_past z0_imageHill z0_imageRules z0_imageDiary v0, bX3 y a1 v1]) (kb := 0) (j := 0) F [0, 1] (x_X11_checkPlank l hlt D y ek n a0 a1 z0_tape z0_tokens z0_hillReader z0_lawReader z0_rules z0_diary z0_spare z0_draft z0_spareDiary z0_guess z0_past z0_imageHill z0_imageRules z0_imageDiary _ _ _ _ ht1a) (cwV 1 F.1.2.2.2.2 (gV q4_153 q4_155 qs_17 q1_1 q4_156) rfl rfl rfl (by decide +kernel) ⟨Nat.le_of_ble_eq_true rfl, Nat.le_of_ble_eq_true rfl⟩) rfl rfl rfl rfl (by decide) rfl rfl rfl rfl rfl rfl (Nat.le_of_ble_eq_true rfl) ⟨Nat.le_of_ble_eq_true rfl, Nat.le_of_ble_eq_true rfl⟩ dX11_more_2 (fun H1 locs1 ls q9 ce h1 h2 h3 h4 h5 h6 h7 => hout H1 locs1 ls _ _ _ _ q9 ce h1 h2 h3 (Nat.le_of_ble_eq_true rfl) (Nat.le_of_ble_eq_true rfl) h5 h6 h7)

abbrev wX11_last : List Cond := Cond.code yX11_last cX11_last 5 (some .int) :: WALL
def m_X11_last (n : Nat) (v0 : St) (v1 : St) (v2 : St) (v3 : St) : Option (Int32 × St × St) :=
lp (fun (rc1 : Int32 × Int32 × Int32 × St × St → Option (Int32 × St × St)) (x1l : Int32 × Int32 × Int32 × St × St) =>
(if (v1 0 0) ≤ x1l.2.2.1 then
some (x1l.1, x1l.2.2.2.1, x1l.2.2.2.2)
else
(if ix x1l.2.2.1 5 then jn (fun (t3 : Int32 × Int32 × St × St) =>
rc1 (t3.1, t3.2.1, (x1l.2.2.1 + 1), t3.2.2.1, t3.2.2.2)) (fun (K3 : Int32 × Int32 × St × St → Option (Int32 × St × St)) =>
(if (v1 12 (x1l.2.2.1).toNatClampNeg) = 0 then
bd (m_X11_weeksToBreak n v0 v1 x1l.2.2.2.1 x1l.2.2.2.2 x1l.2.2.1) (fun t4 =>
(if t4.1 = (-1) then
some (x1l.2.2.1, t4.2.1, t4.2.2)
else
(if t4.1 ≤ x1l.2.1 then
K3 (x1l.1, x1l.2.1, t4.2.1, t4.2.2)
else
K3 (x1l.2.2.1, t4.1, t4.2.1, t4.2.2))))
else
K3 (x1l.1, x1l.2.1, x1l.2.2.2.1, x1l.2.2.2.2))) else none))) n ((-1), (-1), 0, v2, v3)
set_option maxHeartbeats 4000000 in
set_option maxRecDepth 100000 in
theorem c_X11_last (l : Launch) (D : va_G) (y : Nat → ClassId) (ek : EK) (n : Nat) (a0 : Nat → Nat) (a1 : Nat → Nat) (a2 : Nat → Nat) (a3 : Nat → Nat) (z0_tape : Nat) (z0_tokens : Nat) (z0_hillReader : Nat) (z0_lawReader : Nat) (z0_diary : Nat) (z0_draft : Nat) (z0_spareDiary : Nat) (z0_guess : Nat) (z0_past : Nat) (z0_imageHill : Nat) (z0_imageRules : Nat) (z0_imageDiary : Nat) (v0 : St) (v1 : St) (v2 : St) (v3 : St) (res : Int32 × St × St) (hf : m_X11_last n v0 v1 v2 v3 = some res) : CI l yX11_last wX11_last { frames := 6, cells := 0, slots := 0, locals := 142 } D y ek [.ref (a0 0)] [bX11 y a0 z0_tape z0_tokens z0_hillReader z0_lawReader (a1 0) (a2 0) z0_diary (a3 0) z0_draft z0_spareDiary z0_guess z0_past z0_imageHill z0_imageRules z0_imageDiary v0, bX3 y a1 v1, bX5 y a2 v2, bX3 y a3 v3] (res.1) [bX11 y a0 z0_tape z0_tokens z0_hillReader z0_lawReader (a1 0) (a2 0) z0_diary (a3 0) z0_draft z0_spareDiary z0_guess z0_past z0_imageHill z0_imageRules z0_imageDiary v0, bX3 y a1 v1, bX5 y a2 res.2.1, bX3 y a3 res.2.2] 0 0 := by
  unfold m_X11_last at hf
  refine ci_of (cc := cX11_last) (maxL := 5) (by decide) rfl rfl (Nat.le_of_ble_eq_true rfl) ?_
  intro p e s m below meth c Q A F hret
  refine a_lv (lv' := [(0, .ref (a0 0))]) rfl ?_
  refine a_iconst (pc := 0) F dX11_last_0 kc_m1 ?_
  refine a_istoren (pc := 1) (lv' := [(0, .ref (a0 0)), (1, .int (-1))]) F [1, 0] dX11_last_1 rfl (by decide) rfl ?_
  refine a_iconst (pc := 2) F dX11_last_2 kc_m1 ?_
  refine a_istoren (pc := 3) (lv' := [(0, .ref (a0 0)), (1, .int (-1)), (2, .int (-1))]) F [1, 2, 0] dX11_last_3 rfl (by decide) rfl ?_
  refine a_iconst (pc := 4) F dX11_last_4 kc_0 ?_
  refine a_istoren (pc := 5) (lv' := [(0, .ref (a0 0)), (1, .int (-1)), (2, .int (-1)), (3, .int 0)]) F [1, 2, 3, 0] dX11_last_5 rfl (by decide) rfl ?_
  refine a_loop 6 (fun (x1l : Int32 × Int32 × Int32 × St × St) => [(0, .ref (a0 0)), (1, .int x1l.1), (2, .int x1l.2.1), (3, .int x1l.2.2.1)]) (fun (x1l : Int32 × Int32 × Int32 × St × St) => [bX11 y a0 z0_tape z0_tokens z0_hillReader z0_lawReader (a1 0) (a2 0) z0_diary (a3 0) z0_draft z0_spareDiary z0_guess z0_past z0_imageHill z0_imageRules z0_imageDiary v0, bX3 y a1 v1, bX5 y a2 x1l.2.2.2.1, bX3 y a3 x1l.2.2.2.2]) (fun rc1 x1l ih1 hf => ?_) hf rfl rfl
  try dsimp only at hf ⊢
  refine a_iloadn (pc := 6) (j := 3) F dX11_last_6 rfl rfl ?_
  refine a_aloadn (pc := 7) (j := 0) F dX11_last_7 rfl rfl ?_
  refine a_get (pc := 8) (kb := 0) (j := 0) (f := 7) F iW_X11 rfl rfl rfl (by decide) (tl q2_63) (fun _ h => h) rfl dX11_last_8 ?_
  refine a_get (pc := 11) (kb := 1) (j := 0) (f := 0) F iW_X3 rfl rfl rfl (by decide) (tl q1_68) (fun _ h => h) rfl dX11_last_11 ?_
  refine a_icmp_ge (pc := 14) (tgt := 64) F dX11_last_14 (by decide) (fun h => ?_) (fun h => ?_)
  · replace hf := it_pos h hf
    refine a_iloadn (pc := 64) (j := 1) F dX11_last_64 rfl rfl ?_
    obtain rfl := Option.some.inj hf
    exact hret _ _ _ _ (Nat.zero_le _) (Nat.zero_le _) rfl dX11_last_65
  · replace hf := it_neg h hf
    refine a_aloadn (pc := 17) (j := 0) F dX11_last_17 rfl rfl ?_
    refine a_get (pc := 18) (kb := 0) (j := 0) (f := 7) F iW_X11 rfl rfl rfl (by decide) (tl q2_63) (fun _ h => h) rfl dX11_last_18 ?_
    refine a_get (pc := 21) (kb := 1) (j := 0) (f := 12) F iW_X3 rfl rfl rfl (by decide) (tl q1_100) (fun _ h => h) rfl dX11_last_21 ?_
    refine a_iloadn (pc := 24) (j := 3) F dX11_last_24 rfl rfl ?_
    obtain ⟨h2, hf⟩ := gd_some hf
    refine a_zald (pc := 25) (kb := 1) (j := 4) F rfl rfl h2 dX11_last_25 ?_
    refine a_jn 58 (fun (t3 : Int32 × Int32 × St × St) => [(0, .ref (a0 0)), (1, .int t3.1), (2, .int t3.2.1), (3, .int x1l.2.2.1)]) (fun (t3 : Int32 × Int32 × St × St) => []) (fun (t3 : Int32 × Int32 × St × St) => [bX11 y a0 z0_tape z0_tokens z0_hillReader z0_lawReader (a1 0) (a2 0) z0_diary (a3 0) z0_draft z0_spareDiary z0_guess z0_past z0_imageHill z0_imageRules z0_imageDiary v0, bX3 y a1 v1, bX5 y a2 t3.2.2.1, bX3 y a3 t3.2.2.2]) hf (fun t3 hf => ?_) (fun K3 hK3 hf => ?_)
    · try dsimp only at hf ⊢
      refine a_iinc (pc := 58) (j := 3) (v := (x1l.2.2.1 + 1)) (lv' := [(0, .ref (a0 0)), (1, .int t3.1), (2, .int t3.2.1), (3, .int (x1l.2.2.1 + 1))]) F [1, 2, 3, 0] dX11_last_58 rfl ki_1 (by decide) rfl ?_
      refine a_goto (pc := 61) (tgt := 6) F dX11_last_61 (by decide) ?_
      exact ih1 (t3.1, t3.2.1, (x1l.2.2.1 + 1), t3.2.2.1, t3.2.2.2) hf
    · try dsimp only at hf
      refine a_if_eq (pc := 26) (tgt := 32) F dX11_last_26 (by decide) (fun h => ?_) (fun h => ?_)
      · replace hf := it_pos h hf
        refine a_aloadn (pc := 32) (j := 0) F dX11_last_32 rfl rfl ?_
        refine a_iloadn (pc := 33) (j := 3) F dX11_last_33 rfl rfl ?_
        obtain ⟨t4, ht4, hf⟩ := bd_some hf
        refine a_callV (pc := 34) (bs' := [bX11 y a0 z0_tape z0_tokens z0_hillReader z0_lawReader (a1 0) (a2 0) z0_diary (a3 0) z0_draft z0_spareDiary z0_guess z0_past z0_imageHill z0_imageRules z0_imageDiary v0, bX3 y a1 v1, bX5 y a2 t4.2.1, bX3 y a3 t4.2.2]) (kb := 0) (j := 0) F [0, 1, 2, 3] (c_X11_weeksToBreak l D y ek n a0 a1 a2 a3 z0_tape z0_tokens z0_hillReader z0_lawReader z0_diary z0_draft z0_spareDiary z0_guess z0_past z0_imageHill z0_imageRules z0_imageDiary _ _ _ _ _ _ ht4) (cwV 1 F.1.2.2.2.2 (gV q2_193 q2_195 qs_1 q1_1 q2_196) rfl rfl rfl (by decide +kernel) ⟨Nat.le_of_ble_eq_true rfl, Nat.le_of_ble_eq_true rfl⟩) rfl rfl rfl rfl (by decide) rfl rfl rfl rfl rfl rfl (Nat.le_of_ble_eq_true rfl) ⟨Nat.zero_le _, Nat.zero_le _⟩ dX11_last_34 ?_
        refine a_istore (pc := 37) (lv' := [(0, .ref (a0 0)), (1, .int x1l.1), (2, .int x1l.2.1), (3, .int x1l.2.2.1), (4, .int t4.1)]) F [1, 2, 3, 4, 0] dX11_last_37 (by decide) rfl ?_
        refine a_iload (pc := 39) (j := 4) F dX11_last_39 rfl ?_
        refine a_iconst (pc := 41) F dX11_last_41 kc_m1 ?_
        refine a_icmp_ne (pc := 42) (tgt := 47) F dX11_last_42 (by decide) (fun h => ?_) (fun h => ?_)
        · replace hf := it_neg h hf
          refine a_iload (pc := 47) (j := 4) F dX11_last_47 rfl ?_
          refine a_iloadn (pc := 49) (j := 2) F dX11_last_49 rfl rfl ?_
          refine a_icmp_le (pc := 50) (tgt := 58) F dX11_last_50 (by decide) (fun h => ?_) (fun h => ?_)
          · replace hf := it_pos h hf
            refine a_sub [0, 1, 2, 3] rfl ?_
            exact hK3 (x1l.1, x1l.2.1, t4.2.1, t4.2.2) hf
          · replace hf := it_neg h hf
            refine a_iloadn (pc := 53) (j := 3) F dX11_last_53 rfl rfl ?_
            refine a_istoren (pc := 54) (lv' := [(0, .ref (a0 0)), (1, .int x1l.2.2.1), (2, .int x1l.2.1), (3, .int x1l.2.2.1), (4, .int t4.1)]) F [1, 0, 2, 3, 4] dX11_last_54 rfl (by decide) rfl ?_
            refine a_iload (pc := 55) (j := 4) F dX11_last_55 rfl ?_
            refine a_istoren (pc := 57) (lv' := [(0, .ref (a0 0)), (1, .int x1l.2.2.1), (2, .int t4.1), (3, .int x1l.2.2.1), (4, .int t4.1)]) F [1, 2, 0, 3, 4] dX11_last_57 rfl (by decide) rfl ?_
            refine a_sub [0, 1, 2, 3] rfl ?_
            exact hK3 (x1l.2.2.1, t4.1, t4.2.1, t4.2.2) hf
        · replace hf := it_pos h hf
          refine a_iloadn (pc := 45) (j := 3) F dX11_last_45 rfl rfl ?_
          obtain rfl := Option.some.inj hf
          exact hret _ _ _ _ (Nat.zero_le _) (Nat.zero_le _) rfl dX11_last_46
      · replace hf := it_neg h hf
        refine a_goto (pc := 29) (tgt := 58) F dX11_last_29 (by decide) ?_
        exact hK3 (x1l.1, x1l.2.1, x1l.2.2.2.1, x1l.2.2.2.2) hf

abbrev wX11_findFits : List Cond := Cond.code yX11_findFits cX11_findFits 3 none :: WALL
def m_X11_findFits (n : Nat) (v0 : St) (v1 : St) (v2 : St) (v3 : St) (x1 : Int32) : Option ((St × St) ⊕ (Nat × St × St)) :=
bd (m_X11_useTapeUp n v0) (fun t1 =>
bd (m_X11_checkPlank n t1.2 v2 x1) (fun t2 => sm t2 (fun t2a =>
bd (m_X2_isTold n v1 t1.1) (fun t3 =>
(if t3 = 0 then
some (Sum.inr (0, t1.2, v3))
else
bd (m_X2_search n v3 v2 v1 x1 t1.1) (fun t4 =>
some (Sum.inl (t1.2, t4)))))) (fun t2x => some (Sum.inr (t2x, t1.2, v3)))))
set_option maxHeartbeats 4000000 in
set_option maxRecDepth 100000 in
theorem c_X11_findFits (l : Launch) (D : va_G) (y : Nat → ClassId) (ek : EK) (n : Nat) (a0 : Nat → Nat) (a1 : Nat → Nat) (a2 : Nat → Nat) (a3 : Nat → Nat) (z0_tokens : Nat) (z0_hillReader : Nat) (z0_lawReader : Nat) (z0_rules : Nat) (z0_diary : Nat) (z0_spare : Nat) (z0_draft : Nat) (z0_spareDiary : Nat) (z0_past : Nat) (z0_imageHill : Nat) (z0_imageRules : Nat) (z0_imageDiary : Nat) (v0 : St) (v1 : St) (v2 : St) (v3 : St) (x1 : Int32) (res : St × St) (hf : m_X11_findFits n v0 v1 v2 v3 x1 = some (Sum.inl res)) : CV l yX11_findFits wX11_findFits { frames := 7, cells := 0, slots := 0, locals := 115 } D y ek [.ref (a0 0), .int x1] [bX11 y a0 (a1 0) z0_tokens z0_hillReader z0_lawReader (a2 0) z0_rules z0_diary z0_spare z0_draft z0_spareDiary (a3 0) z0_past z0_imageHill z0_imageRules z0_imageDiary v0, bAB400 y a1 v1, bX3 y a2 v2, bX2 y a3 v3] [bX11 y a0 (a1 0) z0_tokens z0_hillReader z0_lawReader (a2 0) z0_rules z0_diary z0_spare z0_draft z0_spareDiary (a3 0) z0_past z0_imageHill z0_imageRules z0_imageDiary res.1, bAB400 y a1 v1, bX3 y a2 v2, bX2 y a3 res.2] 0 0 := by
  unfold m_X11_findFits at hf
  refine cv_of (cc := cX11_findFits) (maxL := 3) (by decide) rfl rfl (Nat.le_of_ble_eq_true rfl) ?_
  intro p e s m below meth c Q A F hret
  refine a_lv (lv' := [(0, .ref (a0 0)), (1, .int x1)]) rfl ?_
  refine a_aloadn (pc := 0) (j := 0) F dX11_findFits_0 rfl rfl ?_
  obtain ⟨t1, ht1, hf⟩ := bd_some hf
  refine a_callV (pc := 1) (bs' := [bX11 y a0 (a1 0) z0_tokens z0_hillReader z0_lawReader (a2 0) z0_rules z0_diary z0_spare z0_draft z0_spareDiary (a3 0) z0_past z0_imageHill z0_imageRules z0_imageDiary t1.2, bAB400 y a1 v1, bX3 y a2 v2, bX2 y a3 v3]) (kb := 0) (j := 0) F [0] (c_X11_useTapeUp l D y ek n a0 (a1 0) z0_tokens z0_hillReader z0_lawReader (a2 0) z0_rules z0_diary z0_spare z0_draft z0_spareDiary (a3 0) z0_past z0_imageHill z0_imageRules z0_imageDiary _ _ ht1) (cwV 0 F.1.2.2.2.2 (gV q3_102 q3_104 qs_4 q1_1 q3_105) rfl rfl rfl (by decide +kernel) ⟨Nat.le_of_ble_eq_true rfl, Nat.le_of_ble_eq_true rfl⟩) rfl rfl rfl rfl (by decide) rfl rfl rfl rfl rfl rfl (Nat.le_of_ble_eq_true rfl) ⟨Nat.zero_le _, Nat.zero_le _⟩ dX11_findFits_1 ?_
  refine a_istoren (pc := 4) (lv' := [(0, .ref (a0 0)), (1, .int x1), (2, .int t1.1)]) F [1, 2, 0] dX11_findFits_4 rfl (by decide) rfl ?_
  refine a_aloadn (pc := 5) (j := 0) F dX11_findFits_5 rfl rfl ?_
  refine a_iloadn (pc := 6) (j := 1) F dX11_findFits_6 rfl rfl ?_
  obtain ⟨t2, ht2a, hf⟩ := bd_some hf
  rcases t2 with t2a | t2x
  · replace hf := sm_inl hf
    refine a_callVv (pc := 7) (bs' := [bX11 y a0 (a1 0) z0_tokens z0_hillReader z0_lawReader (a2 0) z0_rules z0_diary z0_spare z0_draft z0_spareDiary (a3 0) z0_past z0_imageHill z0_imageRules z0_imageDiary t1.2, bAB400 y a1 v1, bX3 y a2 v2, bX2 y a3 v3]) (kb := 0) (j := 0) F [0, 2] (c_X11_checkPlank l D y ek n a0 a2 (a1 0) z0_tokens z0_hillReader z0_lawReader z0_rules z0_diary z0_spare z0_draft z0_spareDiary (a3 0) z0_past z0_imageHill z0_imageRules z0_imageDiary _ _ _ _ ht2a) (cwV 1 F.1.2.2.2.2 (gV q4_153 q4_155 qs_17 q1_1 q4_156) rfl rfl rfl (by decide +kernel) ⟨Nat.le_of_ble_eq_true rfl, Nat.le_of_ble_eq_true rfl⟩) rfl rfl rfl rfl (by decide) rfl rfl rfl rfl rfl rfl (Nat.le_of_ble_eq_true rfl) ⟨Nat.zero_le _, Nat.zero_le _⟩ dX11_findFits_7 ?_
    refine a_aloadn (pc := 10) (j := 0) F dX11_findFits_10 rfl rfl ?_
    refine a_get (pc := 11) (kb := 0) (j := 0) (f := 0) F iW_X11 rfl rfl rfl (by decide) (tl q2_56) (fun _ h => h) rfl dX11_findFits_11 ?_
    refine a_iloadn (pc := 14) (j := 2) F dX11_findFits_14 rfl rfl ?_
    obtain ⟨t3, ht3, hf⟩ := bd_some hf
    refine a_callS (pc := 15) (bs' := [bX11 y a0 (a1 0) z0_tokens z0_hillReader z0_lawReader (a2 0) z0_rules z0_diary z0_spare z0_draft z0_spareDiary (a3 0) z0_past z0_imageHill z0_imageRules z0_imageDiary t1.2, bAB400 y a1 v1, bX3 y a2 v2, bX2 y a3 v3]) F [1] (c_X2_isTold l D y ek n a1 _ _ _ ht3) (va_cwS 2 F.1.2.2.2.2 (gS q5_164 q5_165 q1_9 q5_166) rfl rfl rfl (by decide +kernel) ⟨Nat.le_of_ble_eq_true rfl, Nat.le_of_ble_eq_true rfl⟩) (by decide) rfl rfl rfl rfl rfl rfl (Nat.le_of_ble_eq_true rfl) ⟨Nat.zero_le _, Nat.zero_le _⟩ dX11_findFits_15 ?_
    refine a_if_ne (pc := 18) (tgt := 29) F dX11_findFits_18 (by decide) (fun h => ?_) (fun h => ?_)
    · replace hf := it_neg h hf
      refine a_aloadn (pc := 29) (j := 0) F dX11_findFits_29 rfl rfl ?_
      refine a_get (pc := 30) (kb := 0) (j := 0) (f := 13) F iW_X11 rfl rfl rfl (by decide) (tl q2_69) (fun _ h => h) rfl dX11_findFits_30 ?_
      refine a_aloadn (pc := 33) (j := 0) F dX11_findFits_33 rfl rfl ?_
      refine a_get (pc := 34) (kb := 0) (j := 0) (f := 7) F iW_X11 rfl rfl rfl (by decide) (tl q2_63) (fun _ h => h) rfl dX11_findFits_34 ?_
      refine a_iloadn (pc := 37) (j := 1) F dX11_findFits_37 rfl rfl ?_
      refine a_aloadn (pc := 38) (j := 0) F dX11_findFits_38 rfl rfl ?_
      refine a_get (pc := 39) (kb := 0) (j := 0) (f := 0) F iW_X11 rfl rfl rfl (by decide) (tl q2_56) (fun _ h => h) rfl dX11_findFits_39 ?_
      refine a_iloadn (pc := 42) (j := 2) F dX11_findFits_42 rfl rfl ?_
      obtain ⟨t4, ht4, hf⟩ := bd_some hf
      refine a_callVv (pc := 43) (bs' := [bX11 y a0 (a1 0) z0_tokens z0_hillReader z0_lawReader (a2 0) z0_rules z0_diary z0_spare z0_draft z0_spareDiary (a3 0) z0_past z0_imageHill z0_imageRules z0_imageDiary t1.2, bAB400 y a1 v1, bX3 y a2 v2, bX2 y a3 t4]) (kb := 3) (j := 0) F [3, 2, 1] (c_X2_search l D y ek n a3 a2 a1 _ _ _ _ _ _ ht4) (cwV 4 F.1.2.2.2.2 (gV q5_167 q5_168 q5_169 q1_9 q5_170) rfl rfl rfl (by decide +kernel) ⟨Nat.le_of_ble_eq_true rfl, Nat.le_of_ble_eq_true rfl⟩) rfl rfl rfl rfl (by decide) rfl rfl rfl rfl rfl rfl (Nat.le_of_ble_eq_true rfl) ⟨Nat.zero_le _, Nat.zero_le _⟩ dX11_findFits_43 ?_
      obtain rfl := Sum.inl.inj (Option.some.inj hf)
      exact hret _ _ _ _ (Nat.zero_le _) (Nat.zero_le _) dX11_findFits_46
    · replace hf := it_pos h hf
      exact absurd hf (by simp)
  · replace hf := sm_inr hf
    exact absurd hf (by simp)
set_option maxHeartbeats 4000000 in
set_option maxRecDepth 100000 in
theorem x_X11_findFits (l : Launch) (hlt : l.stackTraces = false) (D : va_G) (y : Nat → ClassId) (ek : EK) (n : Nat) (a0 : Nat → Nat) (a1 : Nat → Nat) (a2 : Nat → Nat) (a3 : Nat → Nat) (z0_tokens : Nat) (z0_hillReader : Nat) (z0_lawReader : Nat) (z0_rules : Nat) (z0_diary : Nat) (z0_spare : Nat) (z0_draft : Nat) (z0_spareDiary : Nat) (z0_past : Nat) (z0_imageHill : Nat) (z0_imageRules : Nat) (z0_imageDiary : Nat) (v0 : St) (v1 : St) (v2 : St) (v3 : St) (x1 : Int32) (res : Nat × St × St) (hf : m_X11_findFits n v0 v1 v2 v3 x1 = some (Sum.inr res)) : CX l yX11_findFits wX11_findFits { frames := 7, cells := 1, slots := 6, locals := 115 } D y ek [.ref (a0 0), .int x1] [bX11 y a0 (a1 0) z0_tokens z0_hillReader z0_lawReader (a2 0) z0_rules z0_diary z0_spare z0_draft z0_spareDiary (a3 0) z0_past z0_imageHill z0_imageRules z0_imageDiary v0, bAB400 y a1 v1, bX3 y a2 v2, bX2 y a3 v3] (eX.getD res.1 "") [bX11 y a0 (a1 0) z0_tokens z0_hillReader z0_lawReader (a2 0) z0_rules z0_diary z0_spare z0_draft z0_spareDiary (a3 0) z0_past z0_imageHill z0_imageRules z0_imageDiary res.2.1, bAB400 y a1 v1, bX3 y a2 v2, bX2 y a3 res.2.2] 1 6 := by
  unfold m_X11_findFits at hf
  refine cx_of (cc := cX11_findFits) (maxL := 3) hlt (by decide) rfl (Nat.le_of_ble_eq_true rfl) (Nat.le_refl 1) (Nat.le_refl 6) ?_
  intro p e s m below meth c Q A F hthr hout
  refine a_lv (lv' := [(0, .ref (a0 0)), (1, .int x1)]) rfl ?_
  refine a_aloadn (pc := 0) (j := 0) F dX11_findFits_0 rfl rfl ?_
  obtain ⟨t1, ht1, hf⟩ := bd_some hf
  refine a_callV (pc := 1) (bs' := [bX11 y a0 (a1 0) z0_tokens z0_hillReader z0_lawReader (a2 0) z0_rules z0_diary z0_spare z0_draft z0_spareDiary (a3 0) z0_past z0_imageHill z0_imageRules z0_imageDiary t1.2, bAB400 y a1 v1, bX3 y a2 v2, bX2 y a3 v3]) (kb := 0) (j := 0) F [0] (c_X11_useTapeUp l D y ek n a0 (a1 0) z0_tokens z0_hillReader z0_lawReader (a2 0) z0_rules z0_diary z0_spare z0_draft z0_spareDiary (a3 0) z0_past z0_imageHill z0_imageRules z0_imageDiary _ _ ht1) (cwV 0 F.1.2.2.2.2 (gV q3_102 q3_104 qs_4 q1_1 q3_105) rfl rfl rfl (by decide +kernel) ⟨Nat.le_of_ble_eq_true rfl, Nat.le_of_ble_eq_true rfl⟩) rfl rfl rfl rfl (by decide) rfl rfl rfl rfl rfl rfl (Nat.le_of_ble_eq_true rfl) ⟨Nat.zero_le _, Nat.zero_le _⟩ dX11_findFits_1 ?_
  refine a_istoren (pc := 4) (lv' := [(0, .ref (a0 0)), (1, .int x1), (2, .int t1.1)]) F [1, 2, 0] dX11_findFits_4 rfl (by decide) rfl ?_
  refine a_aloadn (pc := 5) (j := 0) F dX11_findFits_5 rfl rfl ?_
  refine a_iloadn (pc := 6) (j := 1) F dX11_findFits_6 rfl rfl ?_
  obtain ⟨t2, ht2a, hf⟩ := bd_some hf
  rcases t2 with t2a | t2x
  · replace hf := sm_inl hf
    refine a_callVv (pc := 7) (bs' := [bX11 y a0 (a1 0) z0_tokens z0_hillReader z0_lawReader (a2 0) z0_rules z0_diary z0_spare z0_draft z0_spareDiary (a3 0) z0_past z0_imageHill z0_imageRules z0_imageDiary t1.2, bAB400 y a1 v1, bX3 y a2 v2, bX2 y a3 v3]) (kb := 0) (j := 0) F [0, 2] (c_X11_checkPlank l D y ek n a0 a2 (a1 0) z0_tokens z0_hillReader z0_lawReader z0_rules z0_diary z0_spare z0_draft z0_spareDiary (a3 0) z0_past z0_imageHill z0_imageRules z0_imageDiary _ _ _ _ ht2a) (cwV 1 F.1.2.2.2.2 (gV q4_153 q4_155 qs_17 q1_1 q4_156) rfl rfl rfl (by decide +kernel) ⟨Nat.le_of_ble_eq_true rfl, Nat.le_of_ble_eq_true rfl⟩) rfl rfl rfl rfl (by decide) rfl rfl rfl rfl rfl rfl (Nat.le_of_ble_eq_true rfl) ⟨Nat.zero_le _, Nat.zero_le _⟩ dX11_findFits_7 ?_
    refine a_aloadn (pc := 10) (j := 0) F dX11_findFits_10 rfl rfl ?_
    refine a_get (pc := 11) (kb := 0) (j := 0) (f := 0) F iW_X11 rfl rfl rfl (by decide) (tl q2_56) (fun _ h => h) rfl dX11_findFits_11 ?_
    refine a_iloadn (pc := 14) (j := 2) F dX11_findFits_14 rfl rfl ?_
    obtain ⟨t3, ht3, hf⟩ := bd_some hf
    refine a_callS (pc := 15) (bs' := [bX11 y a0 (a1 0) z0_tokens z0_hillReader z0_lawReader (a2 0) z0_rules z0_diary z0_spare z0_draft z0_spareDiary (a3 0) z0_past z0_imageHill z0_imageRules z0_imageDiary t1.2, bAB400 y a1 v1, bX3 y a2 v2, bX2 y a3 v3]) F [1] (c_X2_isTold l D y ek n a1 _ _ _ ht3) (va_cwS 2 F.1.2.2.2.2 (gS q5_164 q5_165 q1_9 q5_166) rfl rfl rfl (by decide +kernel) ⟨Nat.le_of_ble_eq_true rfl, Nat.le_of_ble_eq_true rfl⟩) (by decide) rfl rfl rfl rfl rfl rfl (Nat.le_of_ble_eq_true rfl) ⟨Nat.zero_le _, Nat.zero_le _⟩ dX11_findFits_15 ?_
    refine a_if_ne (pc := 18) (tgt := 29) F dX11_findFits_18 (by decide) (fun h => ?_) (fun h => ?_)
    · replace hf := it_neg h hf
      refine a_aloadn (pc := 29) (j := 0) F dX11_findFits_29 rfl rfl ?_
      refine a_get (pc := 30) (kb := 0) (j := 0) (f := 13) F iW_X11 rfl rfl rfl (by decide) (tl q2_69) (fun _ h => h) rfl dX11_findFits_30 ?_
      refine a_aloadn (pc := 33) (j := 0) F dX11_findFits_33 rfl rfl ?_
      refine a_get (pc := 34) (kb := 0) (j := 0) (f := 7) F iW_X11 rfl rfl rfl (by decide) (tl q2_63) (fun _ h => h) rfl dX11_findFits_34 ?_
      refine a_iloadn (pc := 37) (j := 1) F dX11_findFits_37 rfl rfl ?_
      refine a_aloadn (pc := 38) (j := 0) F dX11_findFits_38 rfl rfl ?_
      refine a_get (pc := 39) (kb := 0) (j := 0) (f := 0) F iW_X11 rfl rfl rfl (by decide) (tl q2_56) (fun _ h => h) rfl dX11_findFits_39 ?_
      refine a_iloadn (pc := 42) (j := 2) F dX11_findFits_42 rfl rfl ?_
      obtain ⟨t4, ht4, hf⟩ := bd_some hf
      refine a_callVv (pc := 43) (bs' := [bX11 y a0 (a1 0) z0_tokens z0_hillReader z0_lawReader (a2 0) z0_rules z0_diary z0_spare z0_draft z0_spareDiary (a3 0) z0_past z0_imageHill z0_imageRules z0_imageDiary t1.2, bAB400 y a1 v1, bX3 y a2 v2, bX2 y a3 t4]) (kb := 3) (j := 0) F [3, 2, 1] (c_X2_search l D y ek n a3 a2 a1 _ _ _ _ _ _ ht4) (cwV 4 F.1.2.2.2.2 (gV q5_167 q5_168 q5_169 q1_9 q5_170) rfl rfl rfl (by decide +kernel) ⟨Nat.le_of_ble_eq_true rfl, Nat.le_of_ble_eq_true rfl⟩) rfl rfl rfl rfl (by decide) rfl rfl rfl rfl rfl rfl (Nat.le_of_ble_eq_true rfl) ⟨Nat.zero_le _, Nat.zero_le _⟩ dX11_findFits_43 ?_
      exact absurd hf (by simp)
    · replace hf := it_pos h hf
      obtain rfl := Sum.inr.inj (Option.some.inj hf)
      exact hthr 21 127 129 _ _ xw_0 dX11_findFits_21 dX11_findFits_24 dX11_findFits_25 dX11_findFits_28 (Nat.le_of_ble_eq_true rfl) (Nat.le_of_ble_eq_true rfl) (Nat.le_of_ble_eq_true rfl) (Nat.le_of_ble_eq_true rfl)
  · replace hf := sm_inr hf
    obtain rfl := Sum.inr.inj (Option.some.inj hf)
    exact a_callVx (pc := 7) (bs' := [bX11 y a0 (a1 0) z0_tokens z0_hillReader z0_lawReader (a2 0) z0_rules z0_diary z0_spare z0_draft z0_spareDiary (a3 0) z0_past z0_imageHill z0_imageRules z0_imageDiary t1.2, bAB400 y a1 v1, bX3 y a2 v2, bX2 y a3 v3]) (kb := 0) (j := 0) F [0, 2] (x_X11_checkPlank l hlt D y ek n a0 a2 (a1 0) z0_tokens z0_hillReader z0_lawReader z0_rules z0_diary z0_spare z0_draft z0_spareDiary (a3 0) z0_past z0_imageHill z0_imageRules z0_imageDiary _ _ _ _ ht2a) (cwV 1 F.1.2.2.2.2 (gV q4_153 q4_155 qs_17 q1_1 q4_156) rfl rfl rfl (by decide +kernel) ⟨Nat.le_of_ble_eq_true rfl, Nat.le_of_ble_eq_true rfl⟩) rfl rfl rfl rfl (by decide) rfl rfl rfl rfl rfl rfl (Nat.le_of_ble_eq_true rfl) ⟨Nat.le_of_ble_eq_true rfl, Nat.le_of_ble_eq_true rfl⟩ dX11_findFits_7 (fun H1 locs1 ls q9 ce h1 h2 h3 h4 h5 h6 h7 => hout H1 locs1 ls _ _ _ _ q9 ce h1 h2 h3 (Nat.le_of_ble_eq_true rfl) (Nat.le_of_ble_eq_true rfl) h5 h6 h7)

abbrev wX11_has : List Cond := Cond.code yX11_has cX11_has 3 (some .int) :: WALL
def m_X11_has (n : Nat) (v0 : St) (v1 : St) (v2 : St) (v3 : St) (x1 : Int32) (x2 : Int32) : Option ((Int32 × St × St) ⊕ (Nat × St × St)) :=
bd (m_X11_findFits n v0 v1 v2 v3 x1) (fun t1 => sm t1 (fun t1a =>
(if x2 = 0 then
some (Sum.inl ((t1a.2 0 0), t1a.1, t1a.2))
else
some (Sum.inl ((t1a.2 1 0), t1a.1, t1a.2)))) (fun t1x => some (Sum.inr (t1x.1, t1x.2.1, t1x.2.2))))
set_option maxHeartbeats 4000000 in
set_option maxRecDepth 100000 in
theorem c_X11_has (l : Launch) (D : va_G) (y : Nat → ClassId) (ek : EK) (n : Nat) (a0 : Nat → Nat) (a1 : Nat → Nat) (a2 : Nat → Nat) (a3 : Nat → Nat) (z0_tokens : Nat) (z0_hillReader : Nat) (z0_lawReader : Nat) (z0_rules : Nat) (z0_diary : Nat) (z0_spare : Nat) (z0_draft : Nat) (z0_spareDiary : Nat) (z0_past : Nat) (z0_imageHill : Nat) (z0_imageRules : Nat) (z0_imageDiary : Nat) (v0 : St) (v1 : St) (v2 : St) (v3 : St) (x1 : Int32) (x2 : Int32) (res : Int32 × St × St) (hf : m_X11_has n v0 v1 v2 v3 x1 x2 = some (Sum.inl res)) : CI l yX11_has wX11_has { frames := 8, cells := 0, slots := 0, locals := 137 } D y ek [.ref (a0 0), .int x1, .int x2] [bX11 y a0 (a1 0) z0_tokens z0_hillReader z0_lawReader (a2 0) z0_rules z0_diary z0_spare z0_draft z0_spareDiary (a3 0) z0_past z0_imageHill z0_imageRules z0_imageDiary v0, bAB400 y a1 v1, bX3 y a2 v2, bX2 y a3 v3] (res.1) [bX11 y a0 (a1 0) z0_tokens z0_hillReader z0_lawReader (a2 0) z0_rules z0_diary z0_spare z0_draft z0_spareDiary (a3 0) z0_past z0_imageHill z0_imageRules z0_imageDiary res.2.1, bAB400 y a1 v1, bX3 y a2 v2, bX2 y a3 res.2.2] 0 0 := by
  unfold m_X11_has at hf
  refine ci_of (cc := cX11_has) (maxL := 3) (by decide) rfl rfl (Nat.le_of_ble_eq_true rfl) ?_
  intro p e s m below meth c Q A F hret
  refine a_lv (lv' := [(0, .ref (a0 0)), (1, .int x1), (2, .int x2)]) rfl ?_
  refine a_aloadn (pc := 0) (j := 0) F dX11_has_0 rfl rfl ?_
  refine a_iloadn (pc := 1) (j := 1) F dX11_has_1 rfl rfl ?_
  obtain ⟨t1, ht1a, hf⟩ := bd_some hf
  rcases t1 with t1a | t1x
  · replace hf := sm_inl hf
    refine a_callVv (pc := 2) (bs' := [bX11 y a0 (a1 0) z0_tokens z0_hillReader z0_lawReader (a2 0) z0_rules z0_diary z0_spare z0_draft z0_spareDiary (a3 0) z0_past z0_imageHill z0_imageRules z0_imageDiary t1a.1, bAB400 y a1 v1, bX3 y a2 v2, bX2 y a3 t1a.2]) (kb := 0) (j := 0) F [0, 1, 2, 3] (c_X11_findFits l D y ek n a0 a1 a2 a3 z0_tokens z0_hillReader z0_lawReader z0_rules z0_diary z0_spare z0_draft z0_spareDiary z0_past z0_imageHill z0_imageRules z0_imageDiary _ _ _ _ _ _ ht1a) (cwV 1 F.1.2.2.2.2 (gV q5_160 q5_162 qs_20 q1_1 q5_163) rfl rfl rfl (by decide +kernel) ⟨Nat.le_of_ble_eq_true rfl, Nat.le_of_ble_eq_true rfl⟩) rfl rfl rfl rfl (by decide) rfl rfl rfl rfl rfl rfl (Nat.le_of_ble_eq_true rfl) ⟨Nat.zero_le _, Nat.zero_le _⟩ dX11_has_2 ?_
    refine a_iloadn (pc := 5) (j := 2) F dX11_has_5 rfl rfl ?_
    refine a_if_eq (pc := 6) (tgt := 19) F dX11_has_6 (by decide) (fun h => ?_) (fun h => ?_)
    · replace hf := it_pos h hf
      refine a_aloadn (pc := 19) (j := 0) F dX11_has_19 rfl rfl ?_
      refine a_get (pc := 20) (kb := 0) (j := 0) (f := 13) F iW_X11 rfl rfl rfl (by decide) (tl q2_69) (fun _ h => h) rfl dX11_has_20 ?_
      refine a_get (pc := 23) (kb := 3) (j := 0) (f := 0) F iW_X2 rfl rfl rfl (by decide) (tl q2_16) (fun _ h => h) rfl dX11_has_23 ?_
      obtain rfl := Sum.inl.inj (Option.some.inj hf)
      exact hret _ _ _ _ (Nat.zero_le _) (Nat.zero_le _) rfl dX11_has_26
    · replace hf := it_neg h hf
      refine a_aloadn (pc := 9) (j := 0) F dX11_has_9 rfl rfl ?_
      refine a_get (pc := 10) (kb := 0) (j := 0) (f := 13) F iW_X11 rfl rfl rfl (by decide) (tl q2_69) (fun _ h => h) rfl dX11_has_10 ?_
      refine a_get (pc := 13) (kb := 3) (j := 0) (f := 1) F iW_X2 rfl rfl rfl (by decide) (tl q2_18) (fun _ h => h) rfl dX11_has_13 ?_
      refine a_goto (pc := 16) (tgt := 26) F dX11_has_16 (by decide) ?_
      obtain rfl := Sum.inl.inj (Option.some.inj hf)
      exact hret _ _ _ _ (Nat.zero_le _) (Nat.zero_le _) rfl dX11_has_26
  · replace hf := sm_inr hf
    exact absurd hf (by simp)
set_option maxHeartbeats 4000000 in
set_option maxRecDepth 100000 in
theorem x_X11_has (l : Launch) (hlt : l.stackTraces = false) (D : va_G) (y : Nat → ClassId) (ek : EK) (n : Nat) (a0 : Nat → Nat) (a1 : Nat → Nat) (a2 : Nat → Nat) (a3 : Nat → Nat) (z0_tokens : Nat) (z0_hillReader : Nat) (z0_lawReader : Nat) (z0_rules : Nat) (z0_diary : Nat) (z0_spare : Nat) (z0_draft : Nat) (z0_spareDiary : Nat) (z0_past : Nat) (z0_imageHill : Nat) (z0_imageRules : Nat) (z0_imageDiary : Nat) (v0 : St) (v1 : St) (v2 : St) (v3 : St) (x1 : Int32) (x2 : Int32) (res : Nat × St × St) (hf : m_X11_has n v0 v1 v2 v3 x1 x2 = some (Sum.inr res)) : CX l yX11_has wX11_has { frames := 8, cells := 1, slots := 6, locals := 137 } D y ek [.ref (a0 0), .int x1, .int x2] [bX11 y a0 (a1 0) z0_tokens z0_hillReader z0_lawReader (a2 0) z0_rules z0_diary z0_spare z0_draft z0_spareDiary (a3 0) z0_past z0_imageHill z0_imageRules z0_imageDiary v0, bAB400 y a1 v1, bX3 y a2 v2, bX2 y a3 v3] (eX.getD res.1 "") [bX11 y a0 (a1 0) z0_tokens z0_hillReader z0_lawReader (a2 0) z0_rules z0_diary z0_spare z0_draft z0_spareDiary (a3 0) z0_past z0_imageHill z0_imageRules z0_imageDiary res.2.1, bAB400 y a1 v1, bX3 y a2 v2, bX2 y a3 res.2.2] 1 6 := by
  unfold m_X11_has at hf
  refine cx_of (cc := cX11_has) (maxL := 3) hlt (by decide) rfl (Nat.le_of_ble_eq_true rfl) (Nat.le_refl 1) (Nat.le_refl 6) ?_
  intro p e s m below meth c Q A F hthr hout
  refine a_lv (lv' := [(0, .ref (a0 0)), (1, .int x1), (2, .int x2)]) rfl ?_
  refine a_aloadn (pc := 0) (j := 0) F dX11_has_0 rfl rfl ?_
  refine a_iloadn (pc := 1) (j := 1) F dX11_has_1 rfl rfl ?_
  obtain ⟨t1, ht1a, hf⟩ := bd_some hf
  rcases t1 with t1a | t1x
  · replace hf := sm_inl hf
    refine a_callVv (pc := 2) (bs' := [bX11 y a0 (a1 0) z0_tokens z0_hillReader z0_lawReader (a2 0) z0_rules z0_diary z0_spare z0_draft z0_spareDiary (a3 0) z0_past z0_imageHill z0_imageRules z0_imageDiary t1a.1, bAB400 y a1 v1, bX3 y a2 v2, bX2 y a3 t1a.2]) (kb := 0) (j := 0) F [0, 1, 2, 3] (c_X11_findFits l D y ek n a0 a1 a2 a3 z0_tokens z0_hillReader z0_lawReader z0_rules z0_diary z0_spare z0_draft z0_spareDiary z0_past z0_imageHill z0_imageRules z0_imageDiary _ _ _ _ _ _ ht1a) (cwV 1 F.1.2.2.2.2 (gV q5_160 q5_162 qs_20 q1_1 q5_163) rfl rfl rfl (by decide +kernel) ⟨Nat.le_of_ble_eq_true rfl, Nat.le_of_ble_eq_true rfl⟩) rfl rfl rfl rfl (by decide) rfl rfl rfl rfl rfl rfl (Nat.le_of_ble_eq_true rfl) ⟨Nat.zero_le _, Nat.zero_le _⟩ dX11_has_2 ?_
    refine a_iloadn (pc := 5) (j := 2) F dX11_has_5 rfl rfl ?_
    refine a_if_eq (pc := 6) (tgt := 19) F dX11_has_6 (by decide) (fun h => ?_) (fun h => ?_)
    · replace hf := it_pos h hf
      refine a_aloadn (pc := 19) (j := 0) F dX11_has_19 rfl rfl ?_
      refine a_get (pc := 20) (kb := 0) (j := 0) (f := 13) F iW_X11 rfl rfl rfl (by decide) (tl q2_69) (fun _ h => h) rfl dX11_has_20 ?_
      refine a_get (pc := 23) (kb := 3) (j := 0) (f := 0) F iW_X2 rfl rfl rfl (by decide) (tl q2_16) (fun _ h => h) rfl dX11_has_23 ?_
      exact absurd hf (by simp)
    · replace hf := it_neg h hf
      refine a_aloadn (pc := 9) (j := 0) F dX11_has_9 rfl rfl ?_
      refine a_get (pc := 10) (kb := 0) (j := 0) (f := 13) F iW_X11 rfl rfl rfl (by decide) (tl q2_69) (fun _ h => h) rfl dX11_has_10 ?_
      refine a_get (pc := 13) (kb := 3) (j := 0) (f := 1) F iW_X2 rfl rfl rfl (by decide) (tl q2_18) (fun _ h => h) rfl dX11_has_13 ?_
      refine a_goto (pc := 16) (tgt := 26) F dX11_has_16 (by decide) ?_
      exact absurd hf (by simp)
  · replace hf := sm_inr hf
    obtain rfl := Sum.inr.inj (Option.some.inj hf)
    exact a_callVx (pc := 2) (bs' := [bX11 y a0 (a1 0) z0_tokens z0_hillReader z0_lawReader (a2 0) z0_rules z0_diary z0_spare z0_draft z0_spareDiary (a3 0) z0_past z0_imageHill z0_imageRules z0_imageDiary t1x.2.1, bAB400 y a1 v1, bX3 y a2 v2, bX2 y a3 t1x.2.2]) (kb := 0) (j := 0) F [0, 1, 2, 3] (x_X11_findFits l hlt D y ek n a0 a1 a2 a3 z0_tokens z0_hillReader z0_lawReader z0_rules z0_diary z0_spare z0_draft z0_spareDiary z0_past z0_imageHill z0_imageRules z0_imageDiary _ _ _ _ _ _ ht1a) (cwV 1 F.1.2.2.2.2 (gV q5_160 q5_162 qs_20 q1_1 q5_163) rfl rfl rfl (by decide +kernel) ⟨Nat.le_of_ble_eq_true rfl, Nat.le_of_ble_eq_true rfl⟩) rfl rfl rfl rfl (by decide) rfl rfl rfl rfl rfl rfl (Nat.le_of_ble_eq_true rfl) ⟨Nat.le_of_ble_eq_true rfl, Nat.le_of_ble_eq_true rfl⟩ dX11_has_2 (fun H1 locs1 ls q9 ce h1 h2 h3 h4 h5 h6 h7 => hout H1 locs1 ls _ _ _ _ q9 ce h1 h2 h3 (Nat.le_of_ble_eq_true rfl) (Nat.le_of_ble_eq_true rfl) h5 h6 h7)

abbrev wX11_ask : List Cond := Cond.code yX11_ask cX11_ask 2 (some .int) :: WALL
def m_X11_ask (n : Nat) (v0 : St) (v1 : St) (v2 : St) (v3 : St) (x1 : Int32) : Option ((Int32 × St × St) ⊕ (Nat × St × St)) :=
bd (m_X11_findFits n v0 v1 v2 v3 x1) (fun t1 => sm t1 (fun t1a =>
(if 2 ≤ (t1a.2 0 0) then
bd (m_X2_bestAsk n t1a.2 v2 x1) (fun t2 =>
some (Sum.inl (t2.1, t1a.1, t2.2)))
else
some (Sum.inl ((-1), t1a.1, t1a.2)))) (fun t1x => some (Sum.inr (t1x.1, t1x.2.1, t1x.2.2))))
set_option maxHeartbeats 4000000 in
set_option maxRecDepth 100000 in
theorem c_X11_ask (l : Launch) (D : va_G) (y : Nat → ClassId) (ek : EK) (n : Nat) (a0 : Nat → Nat) (a1 : Nat → Nat) (a2 : Nat → Nat) (a3 : Nat → Nat) (z0_tokens : Nat) (z0_hillReader : Nat) (z0_lawReader : Nat) (z0_rules : Nat) (z0_diary : Nat) (z0_spare : Nat) (z0_draft : Nat) (z0_spareDiary : Nat) (z0_past : Nat) (z0_imageHill : Nat) (z0_imageRules : Nat) (z0_imageDiary : Nat) (v0 : St) (v1 : St) (v2 : St) (v3 : St) (x1 : Int32) (res : Int32 × St × St) (hf : m_X11_ask n v0 v1 v2 v3 x1 = some (Sum.inl res)) : CI l yX11_ask wX11_ask { frames := 8, cells := 0, slots := 0, locals := 137 } D y ek [.ref (a0 0), .int x1] [bX11 y a0 (a1 0) z0_tokens z0_hillReader z0_lawReader (a2 0) z0_rules z0_diary z0_spare z0_draft z0_spareDiary (a3 0) z0_past z0_imageHill z0_imageRules z0_imageDiary v0, bAB400 y a1 v1, bX3 y a2 v2, bX2 y a3 v3] (res.1) [bX11 y a0 (a1 0) z0_tokens z0_hillReader z0_lawReader (a2 0) z0_rules z0_diary z0_spare z0_draft z0_spareDiary (a3 0) z0_past z0_imageHill z0_imageRules z0_imageDiary res.2.1, bAB400 y a1 v1, bX3 y a2 v2, bX2 y a3 res.2.2] 0 0 := by
  unfold m_X11_ask at hf
  refine ci_of (cc := cX11_ask) (maxL := 2) (by decide) rfl rfl (Nat.le_of_ble_eq_true rfl) ?_
  intro p e s m below meth c Q A F hret
  refine a_lv (lv' := [(0, .ref (a0 0)), (1, .int x1)]) rfl ?_
  refine a_aloadn (pc := 0) (j := 0) F dX11_ask_0 rfl rfl ?_
  refine a_iloadn (pc := 1) (j := 1) F dX11_ask_1 rfl rfl ?_
  obtain ⟨t1, ht1a, hf⟩ := bd_some hf
  rcases t1 with t1a | t1x
  · replace hf := sm_inl hf
    refine a_callVv (pc := 2) (bs' := [bX11 y a0 (a1 0) z0_tokens z0_hillReader z0_lawReader (a2 0) z0_rules z0_diary z0_spare z0_draft z0_spareDiary (a3 0) z0_past z0_imageHill z0_imageRules z0_imageDiary t1a.1, bAB400 y a1 v1, bX3 y a2 v2, bX2 y a3 t1a.2]) (kb := 0) (j := 0) F [0, 1, 2, 3] (c_X11_findFits l D y ek n a0 a1 a2 a3 z0_tokens z0_hillReader z0_lawReader z0_rules z0_diary z0_spare z0_draft z0_spareDiary z0_past z0_imageHill z0_imageRules z0_imageDiary _ _ _ _ _ _ ht1a) (cwV 1 F.1.2.2.2.2 (gV q5_160 q5_162 qs_20 q1_1 q5_163) rfl rfl rfl (by decide +kernel) ⟨Nat.le_of_ble_eq_true rfl, Nat.le_of_ble_eq_true rfl⟩) rfl rfl rfl rfl (by decide) rfl rfl rfl rfl rfl rfl (Nat.le_of_ble_eq_true rfl) ⟨Nat.zero_le _, Nat.zero_le _⟩ dX11_ask_2 ?_
    refine a_aloadn (pc := 5) (j := 0) F dX11_ask_5 rfl rfl ?_
    refine a_get (pc := 6) (kb := 0) (j := 0) (f := 13) F iW_X11 rfl rfl rfl (by decide) (tl q2_69) (fun _ h => h) rfl dX11_ask_6 ?_
    refine a_get (pc := 9) (kb := 3) (j := 0) (f := 0) F iW_X2 rfl rfl rfl (by decide) (tl q2_16) (fun _ h => h) rfl dX11_ask_9 ?_
    refine a_iconst (pc := 12) F dX11_ask_12 kc_2 ?_
    refine a_icmp_ge (pc := 13) (tgt := 20) F dX11_ask_13 (by decide) (fun h => ?_) (fun h => ?_)
    · replace hf := it_pos h hf
      refine a_aloadn (pc := 20) (j := 0) F dX11_ask_20 rfl rfl ?_
      refine a_get (pc := 21) (kb := 0) (j := 0) (f := 13) F iW_X11 rfl rfl rfl (by decide) (tl q2_69) (fun _ h => h) rfl dX11_ask_21 ?_
      refine a_aloadn (pc := 24) (j := 0) F dX11_ask_24 rfl rfl ?_
      refine a_get (pc := 25) (kb := 0) (j := 0) (f := 7) F iW_X11 rfl rfl rfl (by decide) (tl q2_63) (fun _ h => h) rfl dX11_ask_25 ?_
      refine a_iloadn (pc := 28) (j := 1) F dX11_ask_28 rfl rfl ?_
      obtain ⟨t2, ht2, hf⟩ := bd_some hf
      refine a_callV (pc := 29) (bs' := [bX11 y a0 (a1 0) z0_tokens z0_hillReader z0_lawReader (a2 0) z0_rules z0_diary z0_spare z0_draft z0_spareDiary (a3 0) z0_past z0_imageHill z0_imageRules z0_imageDiary t1a.1, bAB400 y a1 v1, bX3 y a2 v2, bX2 y a3 t2.2]) (kb := 3) (j := 0) F [3, 2] (c_X2_bestAsk l D y ek n a3 a2 _ _ _ _ ht2) (cwV 2 F.1.2.2.2.2 (gV q5_187 q5_188 q5_189 q1_9 q5_190) rfl rfl rfl (by decide +kernel) ⟨Nat.le_of_ble_eq_true rfl, Nat.le_of_ble_eq_true rfl⟩) rfl rfl rfl rfl (by decide) rfl rfl rfl rfl rfl rfl (Nat.le_of_ble_eq_true rfl) ⟨Nat.zero_le _, Nat.zero_le _⟩ dX11_ask_29 ?_
      obtain rfl := Sum.inl.inj (Option.some.inj hf)
      exact hret _ _ _ _ (Nat.zero_le _) (Nat.zero_le _) rfl dX11_ask_32
    · replace hf := it_neg h hf
      refine a_iconst (pc := 16) F dX11_ask_16 kc_m1 ?_
      refine a_goto (pc := 17) (tgt := 32) F dX11_ask_17 (by decide) ?_
      obtain rfl := Sum.inl.inj (Option.some.inj hf)
      exact hret _ _ _ _ (Nat.zero_le _) (Nat.zero_le _) rfl dX11_ask_32
  · replace hf := sm_inr hf
    exact absurd hf (by simp)
set_option maxHeartbeats 4000000 in
set_option maxRecDepth 100000 in
theorem x_X11_ask (l : Launch) (hlt : l.stackTraces = false) (D : va_G) (y : Nat → ClassId) (ek : EK) (n : Nat) (a0 : Nat → Nat) (a1 : Nat → Nat) (a2 : Nat → Nat) (a3 : Nat → Nat) (z0_tokens : Nat) (z0_hillReader : Nat) (z0_lawReader : Nat) (z0_rules : Nat) (z0_diary : Nat) (z0_spare : Nat) (z0_draft : Nat) (z0_spareDiary : Nat) (z0_past : Nat) (z0_imageHill : Nat) (z0_imageRules : Nat) (z0_imageDiary : Nat) (v0 : St) (v1 : St) (v2 : St) (v3 : St) (x1 : Int32) (res : Nat × St × St) (hf : m_X11_ask n v0 v1 v2 v3 x1 = some (Sum.inr res)) : CX l yX11_ask wX11_ask { frames := 8, cells := 1, slots := 6, locals := 137 } D y ek [.ref (a0 0), .int x1] [bX11 y a0 (a1 0) z0_tokens z0_hillReader z0_lawReader (a2 0) z0_rules z0_diary z0_spare z0_draft z0_spareDiary (a3 0) z0_past z0_imageHill z0_imageRules z0_imageDiary v0, bAB400 y a1 v1, bX3 y a2 v2, bX2 y a3 v3] (eX.getD res.1 "") [bX11 y a0 (a1 0) z0_tokens z0_hillReader z0_lawReader (a2 0) z0_rules z0_diary z0_spare z0_draft z0_spareDiary (a3 0) z0_past z0_imageHill z0_imageRules z0_imageDiary res.2.1, bAB400 y a1 v1, bX3 y a2 v2, bX2 y a3 res.2.2] 1 6 := by
  unfold m_X11_ask at hf
  refine cx_of (cc := cX11_ask) (maxL := 2) hlt (by decide) rfl (Nat.le_of_ble_eq_true rfl) (Nat.le_refl 1) (Nat.le_refl 6) ?_
  intro p e s m below meth c Q A F hthr hout
  refine a_lv (lv' := [(0, .ref (a0 0)), (1, .int x1)]) rfl ?_
  refine a_aloadn (pc := 0) (j := 0) F dX11_ask_0 rfl rfl ?_
  refine a_iloadn (pc := 1) (j := 1) F dX11_ask_1 rfl rfl ?_
  obtain ⟨t1, ht1a, hf⟩ := bd_some hf
  rcases t1 with t1a | t1x
  · replace hf := sm_inl hf
    refine a_callVv (pc := 2) (bs' := [bX11 y a0 (a1 0) z0_tokens z0_hillReader z0_lawReader (a2 0) z0_rules z0_diary z0_spare z0_draft z0_spareDiary (a3 0) z0_past z0_imageHill z0_imageRules z0_imageDiary t1a.1, bAB400 y a1 v1, bX3 y a2 v2, bX2 y a3 t1a.2]) (kb := 0) (j := 0) F [0, 1, 2, 3] (c_X11_findFits l D y ek n a0 a1 a2 a3 z0_tokens z0_hillReader z0_lawReader z0_rules z0_diary z0_spare z0_draft z0_spareDiary z0_past z0_imageHill z0_imageRules z0_imageDiary _ _ _ _ _ _ ht1a) (cwV 1 F.1.2.2.2.2 (gV q5_160 q5_162 qs_20 q1_1 q5_163) rfl rfl rfl (by decide +kernel) ⟨Nat.le_of_ble_eq_true rfl, Nat.le_of_ble_eq_true rfl⟩) rfl rfl rfl rfl (by decide) rfl rfl rfl rfl rfl rfl (Nat.le_of_ble_eq_true rfl) ⟨Nat.zero_le _, Nat.zero_le _⟩ dX11_ask_2 ?_
    refine a_aloadn (pc := 5) (j := 0) F dX11_ask_5 rfl rfl ?_
    refine a_get (pc := 6) (kb := 0) (j := 0) (f := 13) F iW_X11 rfl rfl rfl (by decide) (tl q2_69) (fun _ h => h) rfl dX11_ask_6 ?_
    refine a_get (pc := 9) (kb := 3) (j := 0) (f := 0) F iW_X2 rfl rfl rfl (by decide) (tl q2_16) (fun _ h => h) rfl dX11_ask_9 ?_
    refine a_iconst (pc := 12) F dX11_ask_12 kc_2 ?_
    refine a_icmp_ge (pc := 13) (tgt := 20) F dX11_ask_13 (by decide) (fun h => ?_) (fun h => ?_)
    · replace hf := it_pos h hf
      refine a_aloadn (pc := 20) (j := 0) F dX11_ask_20 rfl rfl ?_
      refine a_get (pc := 21) (kb := 0) (j := 0) (f := 13) F iW_X11 rfl rfl rfl (by decide) (tl q2_69) (fun _ h => h) rfl dX11_ask_21 ?_
      refine a_aloadn (pc := 24) (j := 0) F dX11_ask_24 rfl rfl ?_
      refine a_get (pc := 25) (kb := 0) (j := 0) (f := 7) F iW_X11 rfl rfl rfl (by decide) (tl q2_63) (fun _ h => h) rfl dX11_ask_25 ?_
      refine a_iloadn (pc := 28) (j := 1) F dX11_ask_28 rfl rfl ?_
      obtain ⟨t2, ht2, hf⟩ := bd_some hf
      refine a_callV (pc := 29) (bs' := [bX11 y a0 (a1 0) z0_tokens z0_hillReader z0_lawReader (a2 0) z0_rules z0_diary z0_spare z0_draft z0_spareDiary (a3 0) z0_past z0_imageHill z0_imageRules z0_imageDiary t1a.1, bAB400 y a1 v1, bX3 y a2 v2, bX2 y a3 t2.2]) (kb := 3) (j := 0) F [3, 2] (c_X2_bestAsk l D y ek n a3 a2 _ _ _ _ ht2) (cwV 2 F.1.2.2.2.2 (gV q5_187 q5_188 q5_189 q1_9 q5_190) rfl rfl rfl (by decide +kernel) ⟨Nat.le_of_ble_eq_true rfl, Nat.le_of_ble_eq_true rfl⟩) rfl rfl rfl rfl (by decide) rfl rfl rfl rfl rfl rfl (Nat.le_of_ble_eq_true rfl) ⟨Nat.zero_le _, Nat.zero_le _⟩ dX11_ask_29 ?_
      exact absurd hf (by simp)
    · replace hf := it_neg h hf
      refine a_iconst (pc := 16) F dX11_ask_16 kc_m1 ?_
      refine a_goto (pc := 17) (tgt := 32) F dX11_ask_17 (by decide) ?_
      exact absurd hf (by simp)
  · replace hf := sm_inr hf
    obtain rfl := Sum.inr.inj (Option.some.inj hf)
    exact a_callVx (pc := 2) (bs' := [bX11 y a0 (a1 0) z0_tokens z0_hillReader z0_lawReader (a2 0) z0_rules z0_diary z0_spare z0_draft z0_spareDiary (a3 0) z0_past z0_imageHill z0_imageRules z0_imageDiary t1x.2.1, bAB400 y a1 v1, bX3 y a2 v2, bX2 y a3 t1x.2.2]) (kb := 0) (j := 0) F [0, 1, 2, 3] (x_X11_findFits l hlt D y ek n a0 a1 a2 a3 z0_tokens z0_hillReader z0_lawReader z0_rules z0_diary z0_spare z0_draft z0_spareDiary z0_past z0_imageHill z0_imageRules z0_imageDiary _ _ _ _ _ _ ht1a) (cwV 1 F.1.2.2.2.2 (gV q5_160 q5_162 qs_20 q1_1 q5_163) rfl rfl rfl (by decide +kernel) ⟨Nat.le_of_ble_eq_true rfl, Nat.le_of_ble_eq_true rfl⟩) rfl rfl rfl rfl (by decide) rfl rfl rfl rfl rfl rfl (Nat.le_of_ble_eq_true rfl) ⟨Nat.le_of_ble_eq_true rfl, Nat.le_of_ble_eq_true rfl⟩ dX11_ask_2 (fun H1 locs1 ls q9 ce h1 h2 h3 h4 h5 h6 h7 => hout H1 locs1 ls _ _ _ _ q9 ce h1 h2 h3 (Nat.le_of_ble_eq_true rfl) (Nat.le_of_ble_eq_true rfl) h5 h6 h7)

abbrev wX11_ballast : List Cond := Cond.code yX11_ballast cX11_ballast 2 (some .int) :: WALL
def m_X11_ballast (n : Nat) (v0 : St) (v1 : St) (x1 : Int32) : Option ((Int32) ⊕ (Nat)) :=
bd (m_X11_checkPlank n v0 v1 x1) (fun t1 => sm t1 (fun t1a =>
bd (m_X0_restingChoices n v1 x1) (fun t2 =>
some (Sum.inl t2))) (fun t1x => some (Sum.inr t1x)))
set_option maxHeartbeats 4000000 in
set_option maxRecDepth 100000 in
theorem c_X11_ballast (l : Launch) (D : va_G) (y : Nat → ClassId) (ek : EK) (n : Nat) (a0 : Nat → Nat) (a1 : Nat → Nat) (z0_tape : Nat) (z0_tokens : Nat) (z0_hillReader : Nat) (z0_lawReader : Nat) (z0_rules : Nat) (z0_diary : Nat) (z0_spare : Nat) (z0_draft : Nat) (z0_spareDiary : Nat) (z0_guess : Nat) (z0_past : Nat) (z0_imageHill : Nat) (z0_imageRules : Nat) (z0_imageDiary : Nat) (v0 : St) (v1 : St) (x1 : Int32) (res : Int32) (hf : m_X11_ballast n v0 v1 x1 = some (Sum.inl res)) : CI l yX11_ballast wX11_ballast { frames := 7, cells := 0, slots := 0, locals := 114 } D y ek [.ref (a0 0), .int x1] [bX11 y a0 z0_tape z0_tokens z0_hillReader z0_lawReader (a1 0) z0_rules z0_diary z0_spare z0_draft z0_spareDiary z0_guess z0_past z0_imageHill z0_imageRules z0_imageDiary v0, bX3 y a1 v1] (res) [bX11 y a0 z0_tape z0_tokens z0_hillReader z0_lawReader (a1 0) z0_rules z0_diary z0_spare z0_draft z0_spareDiary z0_guess z0_past z0_imageHill z0_imageRules z0_imageDiary v0, bX3 y a1 v1] 0 0 := by
  unfold m_X11_ballast at hf
  refine ci_of (cc := cX11_ballast) (maxL := 2) (by decide) rfl rfl (Nat.le_of_ble_eq_true rfl) ?_
  intro p e s m below meth c Q A F hret
  refine a_lv (lv' := [(0, .ref (a0 0)), (1, .int x1)]) rfl ?_
  refine a_aloadn (pc := 0) (j := 0) F dX11_ballast_0 rfl rfl ?_
  refine a_iloadn (pc := 1) (j := 1) F dX11_ballast_1 rfl rfl ?_
  obtain ⟨t1, ht1a, hf⟩ := bd_some hf
  rcases t1 with t1a | t1x
  · replace hf := sm_inl hf
    refine a_callVv (pc := 2) (bs' := [bX11 y a0 z0_tape z0_tokens z0_hillReader z0_lawReader (a1 0) z0_rules z0_diary z0_spare z0_draft z0_spareDiary z0_guess z0_past z0_imageHill z0_imageRules z0_imageDiary v0, bX3 y a1 v1]) (kb := 0) (j := 0) F [0, 1] (c_X11_checkPlank l D y ek n a0 a1 z0_tape z0_tokens z0_hillReader z0_lawReader z0_rules z0_diary z0_spare z0_draft z0_spareDiary z0_guess z0_past z0_imageHill z0_imageRules z0_imageDiary _ _ _ _ ht1a) (cwV 1 F.1.2.2.2.2 (gV q4_153 q4_155 qs_17 q1_1 q4_156) rfl rfl rfl (by decide +kernel) ⟨Nat.le_of_ble_eq_true rfl, Nat.le_of_ble_eq_true rfl⟩) rfl rfl rfl rfl (by decide) rfl rfl rfl rfl rfl rfl (Nat.le_of_ble_eq_true rfl) ⟨Nat.zero_le _, Nat.zero_le _⟩ dX11_ballast_2 ?_
    refine a_aloadn (pc := 5) (j := 0) F dX11_ballast_5 rfl rfl ?_
    refine a_get (pc := 6) (kb := 0) (j := 0) (f := 7) F iW_X11 rfl rfl rfl (by decide) (tl q2_63) (fun _ h => h) rfl dX11_ballast_6 ?_
    refine a_iloadn (pc := 9) (j := 1) F dX11_ballast_9 rfl rfl ?_
    obtain ⟨t2, ht2, hf⟩ := bd_some hf
    refine a_callS (pc := 10) (bs' := [bX11 y a0 z0_tape z0_tokens z0_hillReader z0_lawReader (a1 0) z0_rules z0_diary z0_spare z0_draft z0_spareDiary z0_guess z0_past z0_imageHill z0_imageRules z0_imageDiary v0, bX3 y a1 v1]) F [1] (c_X0_restingChoices l D y ek n a1 _ _ _ ht2) (va_cwS 2 F.1.2.2.2.2 (gS q5_203 q5_204 q1_27 q5_205) rfl rfl rfl (by decide +kernel) ⟨Nat.le_of_ble_eq_true rfl, Nat.le_of_ble_eq_true rfl⟩) (by decide) rfl rfl rfl rfl rfl rfl (Nat.le_of_ble_eq_true rfl) ⟨Nat.zero_le _, Nat.zero_le _⟩ dX11_ballast_10 ?_
    obtain rfl := Sum.inl.inj (Option.some.inj hf)
    exact hret _ _ _ _ (Nat.zero_le _) (Nat.zero_le _) rfl dX11_ballast_13
  · replace hf := sm_inr hf
    exact absurd hf (by simp)
set_option maxHeartbeats 4000000 in
set_option maxRecDepth 100000 in
theorem x_X11_ballast (l : Launch) (hlt : l.stackTraces = false) (D : va_G) (y : Nat → ClassId) (ek : EK) (n : Nat) (a0 : Nat → Nat) (a1 : Nat → Nat) (z0_tape : Nat) (z0_tokens : Nat) (z0_hillReader : Nat) (z0_lawReader : Nat) (z0_rules : Nat) (z0_diary : Nat) (z0_spare : Nat) (z0_draft : Nat) (z0_spareDiary : Nat) (z0_guess : Nat) (z0_past : Nat) (z0_imageHill : Nat) (z0_imageRules : Nat) (z0_imageDiary : Nat) (v0 : St) (v1 : St) (x1 : Int32) (res : Nat) (hf : m_X11_ballast n v0 v1 x1 = some (Sum.inr res)) : CX l yX11_ballast wX11_ballast { frames := 7, cells := 1, slots := 6, locals := 114 } D y ek [.ref (a0 0), .int x1] [bX11 y a0 z0_tape z0_tokens z0_hillReader z0_lawReader (a1 0) z0_rules z0_diary z0_spare z0_draft z0_spareDiary z0_guess z0_past z0_imageHill z0_imageRules z0_imageDiary v0, bX3 y a1 v1] (eX.getD res "") [bX11 y a0 z0_tape z0_tokens z0_hillReader z0_lawReader (a1 0) z0_rules z0_diary z0_spare z0_draft z0_spareDiary z0_guess z0_past z0_imageHill z0_imageRules z0_imageDiary v0, bX3 y a1 v1] 1 6 := by
  unfold m_X11_ballast at hf
  refine cx_of (cc := cX11_ballast) (maxL := 2) hlt (by decide) rfl (Nat.le_of_ble_eq_true rfl) (Nat.le_refl 1) (Nat.le_refl 6) ?_
  intro p e s m below meth c Q A F hthr hout
  refine a_lv (lv' := [(0, .ref (a0 0)), (1, .int x1)]) rfl ?_
  refine a_aloadn (pc := 0) (j := 0) F dX11_ballast_0 rfl rfl ?_
  refine a_iloadn (pc := 1) (j := 1) F dX11_ballast_1 rfl rfl ?_
  obtain ⟨t1, ht1a, hf⟩ := bd_some hf
  rcases t1 with t1a | t1x
  · replace hf := sm_inl hf
    refine a_callVv (pc := 2) (bs' := [bX11 y a0 z0_tape z0_tokens z0_hillReader z0_lawReader (a1 0) z0_rules z0_diary z0_spare z0_draft z0_spareDiary z0_guess z0_past z0_imageHill z0_imageRules z0_imageDiary v0, bX3 y a1 v1]) (kb := 0) (j := 0) F [0, 1] (c_X11_checkPlank l D y ek n a0 a1 z0_tape z0_tokens z0_hillReader z0_lawReader z0_rules z0_diary z0_spare z0_draft z0_spareDiary z0_guess z0_past z0_imageHill z0_imageRules z0_imageDiary _ _ _ _ ht1a) (cwV 1 F.1.2.2.2.2 (gV q4_153 q4_155 qs_17 q1_1 q4_156) rfl rfl rfl (by decide +kernel) ⟨Nat.le_of_ble_eq_true rfl, Nat.le_of_ble_eq_true rfl⟩) rfl rfl rfl rfl (by decide) rfl rfl rfl rfl rfl rfl (Nat.le_of_ble_eq_true rfl) ⟨Nat.zero_le _, Nat.zero_le _⟩ dX11_ballast_2 ?_
    refine a_aloadn (pc := 5) (j := 0) F dX11_ballast_5 rfl rfl ?_
    refine a_get (pc := 6) (kb := 0) (j := 0) (f := 7) F iW_X11 rfl rfl rfl (by decide) (tl q2_63) (fun _ h => h) rfl dX11_ballast_6 ?_
    refine a_iloadn (pc := 9) (j := 1) F dX11_ballast_9 rfl rfl ?_
    obtain ⟨t2, ht2, hf⟩ := bd_some hf
    refine a_callS (pc := 10) (bs' := [bX11 y a0 z0_tape z0_tokens z0_hillReader z0_lawReader (a1 0) z0_rules z0_diary z0_spare z0_draft z0_spareDiary z0_guess z0_past z0_imageHill z0_imageRules z0_imageDiary v0, bX3 y a1 v1]) F [1] (c_X0_restingChoices l D y ek n a1 _ _ _ ht2) (va_cwS 2 F.1.2.2.2.2 (gS q5_203 q5_204 q1_27 q5_205) rfl rfl rfl (by decide +kernel) ⟨Nat.le_of_ble_eq_true rfl, Nat.le_of_ble_eq_true rfl⟩) (by decide) rfl rfl rfl rfl rfl rfl (Nat.le_of_ble_eq_true rfl) ⟨Nat.zero_le _, Nat.zero_le _⟩ dX11_ballast_10 ?_
    exact absurd hf (by simp)
  · replace hf := sm_inr hf
    obtain rfl := Sum.inr.inj (Option.some.inj hf)
    exact a_callVx (pc := 2) (bs' := [bX11 y a0 z0_tape z0_tokens z0_hillReader z0_lawReader (a1 0) z0_rules z0_diary z0_spare z0_draft z0_spareDiary z0_guess z0_past z0_imageHill z0_imageRules z0_imageDiary v0, bX3 y a1 v1]) (kb := 0) (j := 0) F [0, 1] (x_X11_checkPlank l hlt D y ek n a0 a1 z0_tape z0_tokens z0_hillReader z0_lawReader z0_rules z0_diary z0_spare z0_draft z0_spareDiary z0_guess z0_past z0_imageHill z0_imageRules z0_imageDiary _ _ _ _ ht1a) (cwV 1 F.1.2.2.2.2 (gV q4_153 q4_155 qs_17 q1_1 q4_156) rfl rfl rfl (by decide +kernel) ⟨Nat.le_of_ble_eq_true rfl, Nat.le_of_ble_eq_true rfl⟩) rfl rfl rfl rfl (by decide) rfl rfl rfl rfl rfl rfl (Nat.le_of_ble_eq_true rfl) ⟨Nat.le_of_ble_eq_true rfl, Nat.le_of_ble_eq_true rfl⟩ dX11_ballast_2 (fun H1 locs1 ls q9 ce h1 h2 h3 h4 h5 h6 h7 => hout H1 locs1 ls _ _ _ _ q9 ce h1 h2 h3 (Nat.le_of_ble_eq_true rfl) (Nat.le_of_ble_eq_true rfl) h5 h6 h7)

abbrev wX11_isSafe : List Cond := Cond.code yX11_isSafe cX11_isSafe 6 (some .boolean) :: WALL
def m_X11_isSafe (n : Nat) (v0 : St) (v1 : St) (v2 : St) (v3 : St) (x1 : Int32) (x2 : Int32) (x3 : Int32) : Option (Int32 × St × St) :=
bd (m_X3_copyFrom n v3 v1) (fun t1 =>
lp (fun (rc2 : Int32 × St × St → Option (Int32 × St × St)) (x2l : Int32 × St × St) =>
(if x2 ≤ x2l.1 then
some (1, x2l.2.1, x2l.2.2)
else
bd (m_X3_stealOne n x2l.2.2 x2l.2.1 x1) (fun t3 =>
(if t3.1 = (-1) then
some (1, t3.2.2, t3.2.1)
else
(if ix t3.1 10 then (if (t3.2.1 16 (t3.1).toNatClampNeg) ≤ x3 then
rc2 ((x2l.1 + 1), t3.2.2, t3.2.1)
else
some (0, t3.2.2, t3.2.1)) else none))))) n (0, v2, t1))
set_option maxHeartbeats 4000000 in
set_option maxRecDepth 100000 in
theorem c_X11_isSafe (l : Launch) (D : va_G) (y : Nat → ClassId) (ek : EK) (n : Nat) (a0 : Nat → Nat) (a1 : Nat → Nat) (a2 : Nat → Nat) (a3 : Nat → Nat) (z0_tape : Nat) (z0_tokens : Nat) (z0_hillReader : Nat) (z0_lawReader : Nat) (z0_diary : Nat) (z0_draft : Nat) (z0_spareDiary : Nat) (z0_guess : Nat) (z0_past : Nat) (z0_imageHill : Nat) (z0_imageRules : Nat) (z0_imageDiary : Nat) (v0 : St) (v1 : St) (v2 : St) (v3 : St) (x1 : Int32) (x2 : Int32) (x3 : Int32) (res : Int32 × St × St) (hf : m_X11_isSafe n v0 v1 v2 v3 x1 x2 x3 = some res) : CI l yX11_isSafe wX11_isSafe { frames := 6, cells := 0, slots := 0, locals := 147 } D y ek [.ref (a0 0), .int x1, .int x2, .int x3] [bX11 y a0 z0_tape z0_tokens z0_hillReader z0_lawReader (a1 0) (a2 0) z0_diary (a3 0) z0_draft z0_spareDiary z0_guess z0_past z0_imageHill z0_imageRules z0_imageDiary v0, bX3 y a1 v1, bX5 y a2 v2, bX3 y a3 v3] (res.1) [bX11 y a0 z0_tape z0_tokens z0_hillReader z0_lawReader (a1 0) (a2 0) z0_diary (a3 0) z0_draft z0_spareDiary z0_guess z0_past z0_imageHill z0_imageRules z0_imageDiary v0, bX3 y a1 v1, bX5 y a2 res.2.1, bX3 y a3 res.2.2] 0 0 := by
  unfold m_X11_isSafe at hf
  refine ci_of (cc := cX11_isSafe) (maxL := 6) (by decide) rfl rfl (Nat.le_of_ble_eq_true rfl) ?_
  intro p e s m below meth c Q A F hret
  refine a_lv (lv' := [(0, .ref (a0 0)), (1, .int x1), (2, .int x2), (3, .int x3)]) rfl ?_
  refine a_aloadn (pc := 0) (j := 0) F dX11_isSafe_0 rfl rfl ?_
  refine a_get (pc := 1) (kb := 0) (j := 0) (f := 10) F iW_X11 rfl rfl rfl (by decide) (tl q2_66) (fun _ h => h) rfl dX11_isSafe_1 ?_
  refine a_aloadn (pc := 4) (j := 0) F dX11_isSafe_4 rfl rfl ?_
  refine a_get (pc := 5) (kb := 0) (j := 0) (f := 7) F iW_X11 rfl rfl rfl (by decide) (tl q2_63) (fun _ h => h) rfl dX11_isSafe_5 ?_
  obtain ⟨t1, ht1, hf⟩ := bd_some hf
  refine a_callVv (pc := 8) (bs' := [bX11 y a0 z0_tape z0_tokens z0_hillReader z0_lawReader (a1 0) (a2 0) z0_diary (a3 0) z0_draft z0_spareDiary z0_guess z0_past z0_imageHill z0_imageRules z0_imageDiary v0, bX3 y a1 v1, bX5 y a2 v2, bX3 y a3 t1]) (kb := 3) (j := 0) F [3, 1] (c_X3_copyFrom l D y ek n a3 a1 _ _ _ ht1) (cwV 1 F.1.2.2.2.2 (gV q2_197 q2_142 q2_143 q1_3 q2_144) rfl rfl rfl (by decide +kernel) ⟨Nat.le_of_ble_eq_true rfl, Nat.le_of_ble_eq_true rfl⟩) rfl rfl rfl rfl (by decide) rfl rfl rfl rfl rfl rfl (Nat.le_of_ble_eq_true rfl) ⟨Nat.zero_le _, Nat.zero_le _⟩ dX11_isSafe_8 ?_
  refine a_iconst (pc := 11) F dX11_isSafe_11 kc_0 ?_
  refine a_istore (pc := 12) (lv' := [(0, .ref (a0 0)), (1, .int x1), (2, .int x2), (3, .int x3), (4, .int 0)]) F [1, 2, 3, 4, 0] dX11_isSafe_12 (by decide) rfl ?_
  refine a_loop 14 (fun (x2l : Int32 × St × St) => [(0, .ref (a0 0)), (1, .int x1), (2, .int x2), (3, .int x3), (4, .int x2l.1)]) (fun (x2l : Int32 × St × St) => [bX11 y a0 z0_tape z0_tokens z0_hillReader z0_lawReader (a1 0) (a2 0) z0_diary (a3 0) z0_draft z0_spareDiary z0_guess z0_past z0_imageHill z0_imageRules z0_imageDiary v0, bX3 y a1 v1, bX5 y a2 x2l.2.1, bX3 y a3 x2l.2.2]) (fun rc2 x2l ih2 hf => ?_) hf rfl rfl
  try dsimp only at hf ⊢
  refine a_iload (pc := 14) (j := 4) F dX11_isSafe_14 rfl ?_
  refine a_iloadn (pc := 16) (j := 2) F dX11_isSafe_16 rfl rfl ?_
  refine a_icmp_ge (pc := 17) (tgt := 64) F dX11_isSafe_17 (by decide) (fun h => ?_) (fun h => ?_)
  · replace hf := it_pos h hf
    refine a_iconst (pc := 64) F dX11_isSafe_64 kc_1 ?_
    obtain rfl := Option.some.inj hf
    exact hret _ _ _ _ (Nat.zero_le _) (Nat.zero_le _) (z_nar (Or.inr rfl)) dX11_isSafe_65
  · replace hf := it_neg h hf
    refine a_aloadn (pc := 20) (j := 0) F dX11_isSafe_20 rfl rfl ?_
    refine a_get (pc := 21) (kb := 0) (j := 0) (f := 10) F iW_X11 rfl rfl rfl (by decide) (tl q2_66) (fun _ h => h) rfl dX11_isSafe_21 ?_
    refine a_aloadn (pc := 24) (j := 0) F dX11_isSafe_24 rfl rfl ?_
    refine a_get (pc := 25) (kb := 0) (j := 0) (f := 8) F iW_X11 rfl rfl rfl (by decide) (tl q2_64) (fun _ h => h) rfl dX11_isSafe_25 ?_
    refine a_iloadn (pc := 28) (j := 1) F dX11_isSafe_28 rfl rfl ?_
    obtain ⟨t3, ht3, hf⟩ := bd_some hf
    refine a_callV (pc := 29) (bs' := [bX11 y a0 z0_tape z0_tokens z0_hillReader z0_lawReader (a1 0) (a2 0) z0_diary (a3 0) z0_draft z0_spareDiary z0_guess z0_past z0_imageHill z0_imageRules z0_imageDiary v0, bX3 y a1 v1, bX5 y a2 t3.2.2, bX3 y a3 t3.2.1]) (kb := 3) (j := 0) F [3, 2] (c_X3_stealOne l D y ek n a3 a2 _ _ _ _ ht3) (cwV 2 F.1.2.2.2.2 (gV q5_223 q5_224 q5_225 q1_3 q5_226) rfl rfl rfl (by decide +kernel) ⟨Nat.le_of_ble_eq_true rfl, Nat.le_of_ble_eq_true rfl⟩) rfl rfl rfl rfl (by decide) rfl rfl rfl rfl rfl rfl (Nat.le_of_ble_eq_true rfl) ⟨Nat.zero_le _, Nat.zero_le _⟩ dX11_isSafe_29 ?_
    refine a_istore (pc := 32) (lv' := [(0, .ref (a0 0)), (1, .int x1), (2, .int x2), (3, .int x3), (4, .int x2l.1), (5, .int t3.1)]) F [1, 2, 3, 4, 5, 0] dX11_isSafe_32 (by decide) rfl ?_
    refine a_iload (pc := 34) (j := 5) F dX11_isSafe_34 rfl ?_
    refine a_iconst (pc := 36) F dX11_isSafe_36 kc_m1 ?_
    refine a_icmp_ne (pc := 37) (tgt := 42) F dX11_isSafe_37 (by decide) (fun h => ?_) (fun h => ?_)
    · replace hf := it_neg h hf
      refine a_aloadn (pc := 42) (j := 0) F dX11_isSafe_42 rfl rfl ?_
      refine a_get (pc := 43) (kb := 0) (j := 0) (f := 10) F iW_X11 rfl rfl rfl (by decide) (tl q2_66) (fun _ h => h) rfl dX11_isSafe_43 ?_
      refine a_get (pc := 46) (kb := 3) (j := 0) (f := 16) F iW_X3 rfl rfl rfl (by decide) (tl q1_111) (fun _ h => h) rfl dX11_isSafe_46 ?_
      refine a_iload (pc := 49) (j := 5) F dX11_isSafe_49 rfl ?_
      obtain ⟨h4, hf⟩ := gd_some hf
      refine a_iald (pc := 51) (kb := 3) (j := 8) F rfl rfl h4 dX11_isSafe_51 ?_
      refine a_iloadn (pc := 52) (j := 3) F dX11_isSafe_52 rfl rfl ?_
      refine a_icmp_le (pc := 53) (tgt := 58) F dX11_isSafe_53 (by decide) (fun h => ?_) (fun h => ?_)
      · replace hf := it_pos h hf
        refine a_iinc (pc := 58) (j := 4) (v := (x2l.1 + 1)) (lv' := [(0, .ref (a0 0)), (1, .int x1), (2, .int x2), (3, .int x3), (4, .int (x2l.1 + 1)), (5, .int t3.1)]) F [1, 2, 3, 4, 0, 5] dX11_isSafe_58 rfl ki_1 (by decide) rfl ?_
        refine a_goto (pc := 61) (tgt := 14) F dX11_isSafe_61 (by decide) ?_
        refine a_sub [0, 1, 2, 3, 4] rfl ?_
        exact ih2 ((x2l.1 + 1), t3.2.2, t3.2.1) hf
      · replace hf := it_neg h hf
        refine a_iconst (pc := 56) F dX11_isSafe_56 kc_0 ?_
        obtain rfl := Option.some.inj hf
        exact hret _ _ _ _ (Nat.zero_le _) (Nat.zero_le _) (z_nar (Or.inl rfl)) dX11_isSafe_57
    · replace hf := it_pos h hf
      refine a_iconst (pc := 40) F dX11_isSafe_40 kc_1 ?_
      obtain rfl := Option.some.inj hf
      exact hret _ _ _ _ (Nat.zero_le _) (Nat.zero_le _) (z_nar (Or.inr rfl)) dX11_isSafe_41

abbrev wX11_guards : List Cond := Cond.code yX11_guards cX11_guards 6 (some .int) :: WALL
def m_X11_guards (n : Nat) (v0 : St) (v1 : St) (v2 : St) (v3 : St) (x1 : Int32) (x2 : Int32) : Option ((Int32 × St × St) ⊕ (Nat × St × St)) :=
bd (m_X11_checkNumber n x1 0 8) (fun t1 => sm t1 (fun t1a =>
bd (m_X11_checkNumber n x2 0 99) (fun t2 => sm t2 (fun t2a =>
bd (m_X3_houses n v1) (fun t3 =>
nm (x_shl 1 t3) (fun x3_4 =>
lp (fun (rc5 : Int32 × St × St → Option ((Int32 × St × St) ⊕ (Nat × St × St))) (x5l : Int32 × St × St) =>
(if 3 < x5l.1 then
some (Sum.inl ((-1), x5l.2.1, x5l.2.2))
else
jn (fun (t6 : St × St) =>
rc5 ((x5l.1 + 1), t6.1, t6.2)) (fun (K6 : St × St → Option ((Int32 × St × St) ⊕ (Nat × St × St))) =>
lp (fun (rc7 : Int32 × St × St → Option ((Int32 × St × St) ⊕ (Nat × St × St))) (x7l : Int32 × St × St) =>
(if x3_4 ≤ x7l.1 then
K6 (x7l.2.1, x7l.2.2)
else
bd (m_J6_bitCount_0f7a4 n x7l.1) (fun t8 =>
jn (fun (t9 : St × St) =>
rc7 ((x7l.1 + 1), t9.1, t9.2)) (fun (K9 : St × St → Option ((Int32 × St × St) ⊕ (Nat × St × St))) =>
(if t8 = x5l.1 then
bd (m_X11_isSafe n v0 v1 x7l.2.1 x7l.2.2 x7l.1 x1 x2) (fun t10 =>
(if t10.1 = 0 then
K9 (t10.2.1, t10.2.2)
else
some (Sum.inl (x7l.1, t10.2.1, t10.2.2))))
else
K9 (x7l.2.1, x7l.2.2)))))) n (0, x5l.2.1, x5l.2.2)))) n (0, v2, v3)))) (fun t2x => some (Sum.inr (t2x, v2, v3))))) (fun t1x => some (Sum.inr (t1x, v2, v3))))
set_option maxHeartbeats 4000000 in
set_option maxRecDepth 100000 in
theorem c_X11_guards (l : Launch) (D : va_G) (y : Nat → ClassId) (ek : EK) (n : Nat) (a0 : Nat → Nat) (a1 : Nat → Nat) (a2 : Nat → Nat) (a3 : Nat → Nat) (z0_tape : Nat) (z0_tokens : Nat) (z0_hillReader : Nat) (z0_lawReader : Nat) (z0_diary : Nat) (z0_draft : Nat) (z0_spareDiary : Nat) (z0_guess : Nat) (z0_past : Nat) (z0_imageHill : Nat) (z0_imageRules : Nat) (z0_imageDiary : Nat) (v0 : St) (v1 : St) (v2 : St) (v3 : St) (x1 : Int32) (x2 : Int32) (res : Int32 × St × St) (hf : m_X11_guards n v0 v1 v2 v3 x1 x2 = some (Sum.inl res)) : CI l yX11_guards wX11_guards { frames := 7, cells := 0, slots := 0, locals := 172 } D y ek [.ref (a0 0), .int x1, .int x2] [bX11 y a0 z0_tape z0_tokens z0_hillReader z0_lawReader (a1 0) (a2 0) z0_diary (a3 0) z0_draft z0_spareDiary z0_guess z0_past z0_imageHill z0_imageRules z0_imageDiary v0, bX3 y a1 v1, bX5 y a2 v2, bX3 y a3 v3] (res.1) [bX11 y a0 z0_tape z0_tokens z0_hillReader z0_lawReader (a1 0) (a2 0) z0_diary (a3 0) z0_draft z0_spareDiary z0_guess z0_past z0_imageHill z0_imageRules z0_imageDiary v0, bX3 y a1 v1, bX5 y a2 res.2.1, bX3 y a3 res.2.2] 0 0 := by
  unfold m_X11_guards at hf
  refine ci_of (cc := cX11_guards) (maxL := 6) (by decide) rfl rfl (Nat.le_of_ble_eq_true rfl) ?_
  intro p e s m below meth c Q A F hret
  refine a_lv (lv' := [(0, .ref (a0 0)), (1, .int x1), (2, .int x2)]) rfl ?_
  refine a_iloadn (pc := 0) (j := 1) F dX11_guards_0 rfl rfl ?_
  refine a_iconst (pc := 1) F dX11_guards_1 kc_0 ?_
  refine a_bipush (pc := 2) F dX11_guards_2 kb_8 ?_
  obtain ⟨t1, ht1a, hf⟩ := bd_some hf
  rcases t1 with t1a | t1x
  · replace hf := sm_inl hf
    refine a_callSv (pc := 4) (bs' := [bX11 y a0 z0_tape z0_tokens z0_hillReader z0_lawReader (a1 0) (a2 0) z0_diary (a3 0) z0_draft z0_spareDiary z0_guess z0_past z0_imageHill z0_imageRules z0_imageDiary v0, bX3 y a1 v1, bX5 y a2 v2, bX3 y a3 v3]) F [] (c_X11_checkNumber l D y ek n  _ _ _ _ ht1a) (va_cwS 3 F.1.2.2.2.2 (gS q5_19 q5_20 q1_1 q5_21) rfl rfl rfl (by decide +kernel) ⟨Nat.le_of_ble_eq_true rfl, Nat.le_of_ble_eq_true rfl⟩) (by decide) rfl rfl rfl rfl rfl rfl (Nat.le_of_ble_eq_true rfl) ⟨Nat.zero_le _, Nat.zero_le _⟩ dX11_guards_4 ?_
    refine a_iloadn (pc := 7) (j := 2) F dX11_guards_7 rfl rfl ?_
    refine a_iconst (pc := 8) F dX11_guards_8 kc_0 ?_
    refine a_bipush (pc := 9) F dX11_guards_9 kb_99 ?_
    obtain ⟨t2, ht2a, hf⟩ := bd_some hf
    rcases t2 with t2a | t2x
    · replace hf := sm_inl hf
      refine a_callSv (pc := 11) (bs' := [bX11 y a0 z0_tape z0_tokens z0_hillReader z0_lawReader (a1 0) (a2 0) z0_diary (a3 0) z0_draft z0_spareDiary z0_guess z0_past z0_imageHill z0_imageRules z0_imageDiary v0, bX3 y a1 v1, bX5 y a2 v2, bX3 y a3 v3]) F [] (c_X11_checkNumber l D y ek n  _ _ _ _ ht2a) (va_cwS 3 F.1.2.2.2.2 (gS q5_19 q5_20 q1_1 q5_21) rfl rfl rfl (by decide +kernel) ⟨Nat.le_of_ble_eq_true rfl, Nat.le_of_ble_eq_true rfl⟩) (by decide) rfl rfl rfl rfl rfl rfl (Nat.le_of_ble_eq_true rfl) ⟨Nat.zero_le _, Nat.zero_le _⟩ dX11_guards_11 ?_
      refine a_iconst (pc := 14) F dX11_guards_14 kc_1 ?_
      refine a_aloadn (pc := 15) (j := 0) F dX11_guards_15 rfl rfl ?_
      refine a_get (pc := 16) (kb := 0) (j := 0) (f := 7) F iW_X11 rfl rfl rfl (by decide) (tl q2_63) (fun _ h => h) rfl dX11_guards_16 ?_
      obtain ⟨t3, ht3, hf⟩ := bd_some hf
      refine a_callV (pc := 19) (bs' := [bX11 y a0 z0_tape z0_tokens z0_hillReader z0_lawReader (a1 0) (a2 0) z0_diary (a3 0) z0_draft z0_spareDiary z0_guess z0_past z0_imageHill z0_imageRules z0_imageDiary v0, bX3 y a1 v1, bX5 y a2 v2, bX3 y a3 v3]) (kb := 1) (j := 0) F [1] (c_X3_houses l D y ek n a1 _ _ ht3) (cwV 0 F.1.2.2.2.2 (gV q2_179 q2_158 q2_159 q1_3 q2_160) rfl rfl rfl (by decide +kernel) ⟨Nat.le_of_ble_eq_true rfl, Nat.le_of_ble_eq_true rfl⟩) rfl rfl rfl rfl (by decide) rfl rfl rfl rfl rfl rfl (Nat.le_of_ble_eq_true rfl) ⟨Nat.zero_le _, Nat.zero_le _⟩ dX11_guards_19 ?_
      refine a_ishl (pc := 22) F dX11_guards_22 ?_
      obtain ⟨x3_4, ex3_4, hf⟩ := nm_some hf
      refine a_nmi ex3_4 ?_
      refine a_istoren (pc := 23) (lv' := [(0, .ref (a0 0)), (1, .int x1), (2, .int x2), (3, .int x3_4)]) F [1, 2, 3, 0] dX11_guards_23 rfl (by decide) rfl ?_
      refine a_iconst (pc := 24) F dX11_guards_24 kc_0 ?_
      refine a_istore (pc := 25) (lv' := [(0, .ref (a0 0)), (1, .int x1), (2, .int x2), (3, .int x3_4), (4, .int 0)]) F [1, 2, 3, 4, 0] dX11_guards_25 (by decide) rfl ?_
      refine a_loop 27 (fun (x5l : Int32 × St × St) => [(0, .ref (a0 0)), (1, .int x1), (2, .int x2), (3, .int x3_4), (4, .int x5l.1)]) (fun (x5l : Int32 × St × St) => [bX11 y a0 z0_tape z0_tokens z0_hillReader z0_lawReader (a1 0) (a2 0) z0_diary (a3 0) z0_draft z0_spareDiary z0_guess z0_past z0_imageHill z0_imageRules z0_imageDiary v0, bX3 y a1 v1, bX5 y a2 x5l.2.1, bX3 y a3 x5l.2.2]) (fun rc5 x5l ih5 hf => ?_) hf rfl rfl
      try dsimp only at hf ⊢
      refine a_iload (pc := 27) (j := 4) F dX11_guards_27 rfl ?_
      refine a_iconst (pc := 29) F dX11_guards_29 kc_3 ?_
      refine a_icmp_gt (pc := 30) (tgt := 78) F dX11_guards_30 (by decide) (fun h => ?_) (fun h => ?_)
      · replace hf := it_pos h hf
        refine a_iconst (pc := 78) F dX11_guards_78 kc_m1 ?_
        obtain rfl := Sum.inl.inj (Option.some.inj hf)
        exact hret _ _ _ _ (Nat.zero_le _) (Nat.zero_le _) rfl dX11_guards_79
      · replace hf := it_neg h hf
        refine a_iconst (pc := 33) F dX11_guards_33 kc_0 ?_
        refine a_istore (pc := 34) (lv' := [(0, .ref (a0 0)), (1, .int x1), (2, .int x2), (3, .int x3_4), (4, .int x5l.1), (5, .int 0)]) F [1, 2, 3, 4, 5, 0] dX11_guards_34 (by decide) rfl ?_
        refine a_jn 72 (fun (t6 : St × St) => [(0, .ref (a0 0)), (1, .int x1), (2, .int x2), (3, .int x3_4), (4, .int x5l.1)]) (fun (t6 : St × St) => []) (fun (t6 : St × St) => [bX11 y a0 z0_tape z0_tokens z0_hillReader z0_lawReader (a1 0) (a2 0) z0_diary (a3 0) z0_draft z0_spareDiary z0_guess z0_past z0_imageHill z0_imageRules z0_imageDiary v0, bX3 y a1 v1, bX5 y a2 t6.1, bX3 y a3 t6.2]) hf (fun t6 hf => ?_) (fun K6 hK6 hf => ?_)
        · try dsimp only at hf ⊢
          refine a_iinc (pc := 72) (j := 4) (v := (x5l.1 + 1)) (lv' := [(0, .ref (a0 0)), (1, .int x1), (2, .int x2), (3, .int x3_4), (4, .int (x5l.1 + 1))]) F [1, 2, 3, 4, 0] dX11_guards_72 rfl ki_1 (by decide) rfl ?_
          refine a_goto (pc := 75) (tgt := 27) F dX11_guards_75 (by decide) ?_
          exact ih5 ((x5l.1 + 1), t6.1, t6.2) hf
        · try dsimp only at hf
          refine a_loop 36 (fun (x7l : Int32 × St × St) => [(0, .ref (a0 0)), (1, .int x1), (2, .int x2), (3, .int x3_4), (4, .int x5l.1), (5, .int x7l.1)]) (fun (x7l : Int32 × St × St) => [bX11 y a0 z0_tape z0_tokens z0_hillReader z0_lawReader (a1 0) (a2 0) z0_diary (a3 0) z0_draft z0_spareDiary z0_guess z0_past z0_imageHill z0_imageRules z0_imageDiary v0, bX3 y a1 v1, bX5 y a2 x7l.2.1, bX3 y a3 x7l.2.2]) (fun rc7 x7l ih7 hf => ?_) hf rfl rfl
          try dsimp only at hf ⊢
          refine a_iload (pc := 36) (j := 5) F dX11_guards_36 rfl ?_
          refine a_iloadn (pc := 38) (j := 3) F dX11_guards_38 rfl rfl ?_
          refine a_icmp_ge (pc := 39) (tgt := 72) F dX11_guards_39 (by decide) (fun h => ?_) (fun h => ?_)
          · replace hf := it_pos h hf
            refine a_sub [0, 1, 2, 3, 4] rfl ?_
            exact hK6 (x7l.2.1, x7l.2.2) hf
          · replace hf := it_neg h hf
            refine a_iload (pc := 42) (j := 5) F dX11_guards_42 rfl ?_
            obtain ⟨t8, ht8, hf⟩ := bd_some hf
            refine a_callS (pc := 44) (bs' := [bX11 y a0 z0_tape z0_tokens z0_hillReader z0_lawReader (a1 0) (a2 0) z0_diary (a3 0) z0_draft z0_spareDiary z0_guess z0_past z0_imageHill z0_imageRules z0_imageDiary v0, bX3 y a1 v1, bX5 y a2 x7l.2.1, bX3 y a3 x7l.2.2]) F [] (c_J6_bitCount_0f7a4 l D y ek n  _ _ ht8) (va_cwS 1 F.1.2.2.2.2 (gS q5_135 q5_100 q1_26 q5_101) rfl rfl rfl (by decide +kernel) ⟨Nat.le_of_ble_eq_true rfl, Nat.le_of_ble_eq_true rfl⟩) (by decide) rfl rfl rfl rfl rfl rfl (Nat.le_of_ble_eq_true rfl) ⟨Nat.zero_le _, Nat.zero_le _⟩ dX11_guards_44 ?_
            refine a_iload (pc := 47) (j := 4) F dX11_guards_47 rfl ?_
            refine a_jn 66 (fun (t9 : St × St) => [(0, .ref (a0 0)), (1, .int x1), (2, .int x2), (3, .int x3_4), (4, .int x5l.1), (5, .int x7l.1)]) (fun (t9 : St × St) => []) (fun (t9 : St × St) => [bX11 y a0 z0_tape z0_tokens z0_hillReader z0_lawReader (a1 0) (a2 0) z0_diary (a3 0) z0_draft z0_spareDiary z0_guess z0_past z0_imageHill z0_imageRules z0_imageDiary v0, bX3 y a1 v1, bX5 y a2 t9.1, bX3 y a3 t9.2]) hf (fun t9 hf => ?_) (fun K9 hK9 hf => ?_)
            · try dsimp only at hf ⊢
              refine a_iinc (pc := 66) (j := 5) (v := (x7l.1 + 1)) (lv' := [(0, .ref (a0 0)), (1, .int x1), (2, .int x2), (3, .int x3_4), (4, .int x5l.1), (5, .int (x7l.1 + 1))]) F [1, 2, 3, 4, 5, 0] dX11_guards_66 rfl ki_1 (by decide) rfl ?_
              refine a_goto (pc := 69) (tgt := 36) F dX11_guards_69 (by decide) ?_
              exact ih7 ((x7l.1 + 1), t9.1, t9.2) hf
            · try dsimp only at hf
              refine a_icmp_ne (pc := 49) (tgt := 66) F dX11_guards_49 (by decide) (fun h => ?_) (fun h => ?_)
              · replace hf := it_neg h hf
                exact hK9 (x7l.2.1, x7l.2.2) hf
              · replace hf := it_pos h hf
                refine a_aloadn (pc := 52) (j := 0) F dX11_guards_52 rfl rfl ?_
                refine a_iload (pc := 53) (j := 5) F dX11_guards_53 rfl ?_
                refine a_iloadn (pc := 55) (j := 1) F dX11_guards_55 rfl rfl ?_
                refine a_iloadn (pc := 56) (j := 2) F dX11_guards_56 rfl rfl ?_
                obtain ⟨t10, ht10, hf⟩ := bd_some hf
                refine a_callV (pc := 57) (bs' := [bX11 y a0 z0_tape z0_tokens z0_hillReader z0_lawReader (a1 0) (a2 0) z0_diary (a3 0) z0_draft z0_spareDiary z0_guess z0_past z0_imageHill z0_imageRules z0_imageDiary v0, bX3 y a1 v1, bX5 y a2 t10.2.1, bX3 y a3 t10.2.2]) (kb := 0) (j := 0) F [0, 1, 2, 3] (c_X11_isSafe l D y ek n a0 a1 a2 a3 z0_tape z0_tokens z0_hillReader z0_lawReader z0_diary z0_draft z0_spareDiary z0_guess z0_past z0_imageHill z0_imageRules z0_imageDiary _ _ _ _ _ _ _ _ ht10) (cwV 3 F.1.2.2.2.2 (gV q5_219 q5_221 qs_22 q1_1 q5_222) rfl rfl rfl (by decide +kernel) ⟨Nat.le_of_ble_eq_true rfl, Nat.le_of_ble_eq_true rfl⟩) rfl rfl rfl rfl (by decide) rfl rfl rfl rfl rfl rfl (Nat.le_of_ble_eq_true rfl) ⟨Nat.zero_le _, Nat.zero_le _⟩ dX11_guards_57 ?_
                refine a_if_eq (pc := 60) (tgt := 66) F dX11_guards_60 (by decide) (fun h => ?_) (fun h => ?_)
                · replace hf := it_pos h hf
                  exact hK9 (t10.2.1, t10.2.2) hf
                · replace hf := it_neg h hf
                  refine a_iload (pc := 63) (j := 5) F dX11_guards_63 rfl ?_
                  obtain rfl := Sum.inl.inj (Option.some.inj hf)
                  exact hret _ _ _ _ (Nat.zero_le _) (Nat.zero_le _) rfl dX11_guards_65
    · replace hf := sm_inr hf
      exact absurd hf (by simp)
  · replace hf := sm_inr hf
    exact absurd hf (by simp)
set_option maxHeartbeats 4000000 in
set_option maxRecDepth 100000 in
theorem x_X11_guards (l : Launch) (hlt : l.stackTraces = false) (D : va_G) (y : Nat → ClassId) (ek : EK) (n : Nat) (a0 : Nat → Nat) (a1 : Nat → Nat) (a2 : Nat → Nat) (a3 : Nat → Nat) (z0_tape : Nat) (z0_tokens : Nat) (z0_hillReader : Nat) (z0_lawReader : Nat) (z0_diary : Nat) (z0_draft : Nat) (z0_spareDiary : Nat) (z0_guess : Nat) (z0_past : Nat) (z0_imageHill : Nat) (z0_imageRules : Nat) (z0_imageDiary : Nat) (v0 : St) (v1 : St) (v2 : St) (v3 : St) (x1 : Int32) (x2 : Int32) (res : Nat × St × St) (hf : m_X11_guards n v0 v1 v2 v3 x1 x2 = some (Sum.inr res)) : CX l yX11_guards wX11_guards { frames := 7, cells := 1, slots := 6, locals := 172 } D y ek [.ref (a0 0), .int x1, .int x2] [bX11 y a0 z0_tape z0_tokens z0_hillReader z0_lawReader (a1 0) (a2 0) z0_diary (a3 0) z0_draft z0_spareDiary z0_guess z0_past z0_imageHill z0_imageRules z0_imageDiary v0, bX3 y a1 v1, bX5 y a2 v2, bX3 y a3 v3] (eX.getD res.1 "") [bX11 y a0 z0_tape z0_tokens z0_hillReader z0_lawReader (a1 0) (a2 0) z0_diary (a3 0) z0_draft z0_spareDiary z0_guess z0_past z0_imageHill z0_imageRules z0_imageDiary v0, bX3 y a1 v1, bX5 y a2 res.2.1, bX3 y a3 res.2.2] 1 6 := by
  unfold m_X11_guards at hf
  refine cx_of (cc := cX11_guards) (maxL := 6) hlt (by decide) rfl (Nat.le_of_ble_eq_true rfl) (Nat.le_refl 1) (Nat.le_refl 6) ?_
  intro p e s m below meth c Q A F hthr hout
  refine a_lv (lv' := [(0, .ref (a0 0)), (1, .int x1), (2, .int x2)]) rfl ?_
  refine a_iloadn (pc := 0) (j := 1) F dX11_guards_0 rfl rfl ?_
  refine a_iconst (pc := 1) F dX11_guards_1 kc_0 ?_
  refine a_bipush (pc := 2) F dX11_guards_2 kb_8 ?_
  obtain ⟨t1, ht1a, hf⟩ := bd_some hf
  rcases t1 with t1a | t1x
  · replace hf := sm_inl hf
    refine a_callSv (pc := 4) (bs' := [bX11 y a0 z0_tape z0_tokens z0_hillReader z0_lawReader (a1 0) (a2 0) z0_diary (a3 0) z0_draft z0_spareDiary z0_guess z0_past z0_imageHill z0_imageRules z0_imageDiary v0, bX3 y a1 v1, bX5 y a2 v2, bX3 y a3 v3]) F [] (c_X11_checkNumber l D y ek n  _ _ _ _ ht1a) (va_cwS 3 F.1.2.2.2.2 (gS q5_19 q5_20 q1_1 q5_21) rfl rfl rfl (by decide +kernel) ⟨Nat.le_of_ble_eq_true rfl, Nat.le_of_ble_eq_true rfl⟩) (by decide) rfl rfl rfl rfl rfl rfl (Nat.le_of_ble_eq_true rfl) ⟨Nat.zero_le _, Nat.zero_le _⟩ dX11_guards_4 ?_
    refine a_iloadn (pc := 7) (j := 2) F dX11_guards_7 rfl rfl ?_
    refine a_iconst (pc := 8) F dX11_guards_8 kc_0 ?_
    refine a_bipush (pc := 9) F dX11_guards_9 kb_99 ?_
    obtain ⟨t2, ht2a, hf⟩ := bd_some hf
    rcases t2 with t2a | t2x
    · replace hf := sm_inl hf
      refine a_callSv (pc := 11) (bs' := [bX11 y a0 z0_tape z0_tokens z0_hillReader z0_lawReader (a1 0) (a2 0) z0_diary (a3 0) z0_draft z0_spareDiary z0_guess z0_past z0_imageHill z0_imageRules z0_imageDiary v0, bX3 y a1 v1, bX5 y a2 v2, bX3 y a3 v3]) F [] (c_X11_checkNumber l D y ek n  _ _ _ _ ht2a) (va_cwS 3 F.1.2.2.2.2 (gS q5_19 q5_20 q1_1 q5_21) rfl rfl rfl (by decide +kernel) ⟨Nat.le_of_ble_eq_true rfl, Nat.le_of_ble_eq_true rfl⟩) (by decide) rfl rfl rfl rfl rfl rfl (Nat.le_of_ble_eq_true rfl) ⟨Nat.zero_le _, Nat.zero_le _⟩ dX11_guards_11 ?_
      refine a_iconst (pc := 14) F dX11_guards_14 kc_1 ?_
      refine a_aloadn (pc := 15) (j := 0) F dX11_guards_15 rfl rfl ?_
      refine a_get (pc := 16) (kb := 0) (j := 0) (f := 7) F iW_X11 rfl rfl rfl (by decide) (tl q2_63) (fun _ h => h) rfl dX11_guards_16 ?_
      obtain ⟨t3, ht3, hf⟩ := bd_some hf
      refine a_callV (pc := 19) (bs' := [bX11 y a0 z0_tape z0_tokens z0_hillReader z0_lawReader (a1 0) (a2 0) z0_diary (a3 0) z0_draft z0_spareDiary z0_guess z0_past z0_imageHill z0_imageRules z0_imageDiary v0, bX3 y a1 v1, bX5 y a2 v2, bX3 y a3 v3]) (kb := 1) (j := 0) F [1] (c_X3_houses l D y ek n a1 _ _ ht3) (cwV 0 F.1.2.2.2.2 (gV q2_179 q2_158 q2_159 q1_3 q2_160) rfl rfl rfl (by decide +kernel) ⟨Nat.le_of_ble_eq_true rfl, Nat.le_of_ble_eq_true rfl⟩) rfl rfl rfl rfl (by decide) rfl rfl rfl rfl rfl rfl (Nat.le_of_ble_eq_true rfl) ⟨Nat.zero_le _, Nat.zero_le _⟩ dX11_guards_19 ?_
      refine a_ishl (pc := 22) F dX11_guards_22 ?_
      obtain ⟨x3_4, ex3_4, hf⟩ := nm_some hf
      refine a_nmi ex3_4 ?_
      refine a_istoren (pc := 23) (lv' := [(0, .ref (a0 0)), (1, .int x1), (2, .int x2), (3, .int x3_4)]) F [1, 2, 3, 0] dX11_guards_23 rfl (by decide) rfl ?_
      refine a_iconst (pc := 24) F dX11_guards_24 kc_0 ?_
      refine a_istore (pc := 25) (lv' := [(0, .ref (a0 0)), (1, .int x1), (2, .int x2), (3, .int x3_4), (4, .int 0)]) F [1, 2, 3, 4, 0] dX11_guards_25 (by decide) rfl ?_
      refine a_loop 27 (fun (x5l : Int32 × St × St) => [(0, .ref (a0 0)), (1, .int x1), (2, .int x2), (3, .int x3_4), (4, .int x5l.1)]) (fun (x5l : Int32 × St × St) => [bX11 y a0 z0_tape z0_tokens z0_hillReader z0_lawReader (a1 0) (a2 0) z0_diary (a3 0) z0_draft z0_spareDiary z0_guess z0_past z0_imageHill z0_imageRules z0_imageDiary v0, bX3 y a1 v1, bX5 y a2 x5l.2.1, bX3 y a3 x5l.2.2]) (fun rc5 x5l ih5 hf => ?_) hf rfl rfl
      try dsimp only at hf ⊢
      refine a_iload (pc := 27) (j := 4) F dX11_guards_27 rfl ?_
      refine a_iconst (pc := 29) F dX11_guards_29 kc_3 ?_
      refine a_icmp_gt (pc := 30) (tgt := 78) F dX11_guards_30 (by decide) (fun h => ?_) (fun h => ?_)
      · replace hf := it_pos h hf
        refine a_iconst (pc := 78) F dX11_guards_78 kc_m1 ?_
        exact absurd hf (by simp)
      · replace hf := it_neg h hf
        refine a_iconst (pc := 33) F dX11_guards_33 kc_0 ?_
        refine a_istore (pc := 34) (lv' := [(0, .ref (a0 0)), (1, .int x1), (2, .int x2), (3, .int x3_4), (4, .int x5l.1), (5, .int 0)]) F [1, 2, 3, 4, 5, 0] dX11_guards_34 (by decide) rfl ?_
        refine a_jn 72 (fun (t6 : St × St) => [(0, .ref (a0 0)), (1, .int x1), (2, .int x2), (3, .int x3_4), (4, .int x5l.1)]) (fun (t6 : St × St) => []) (fun (t6 : St × St) => [bX11 y a0 z0_tape z0_tokens z0_hillReader z0_lawReader (a1 0) (a2 0) z0_diary (a3 0) z0_draft z0_spareDiary z0_guess z0_past z0_imageHill z0_imageRules z0_imageDiary v0, bX3 y a1 v1, bX5 y a2 t6.1, bX3 y a3 t6.2]) hf (fun t6 hf => ?_) (fun K6 hK6 hf => ?_)
        · try dsimp only at hf ⊢
          refine a_iinc (pc := 72) (j := 4) (v := (x5l.1 + 1)) (lv' := [(0, .ref (a0 0)), (1, .int x1), (2, .int x2), (3, .int x3_4), (4, .int (x5l.1 + 1))]) F [1, 2, 3, 4, 0] dX11_guards_72 rfl ki_1 (by decide) rfl ?_
          refine a_goto (pc := 75) (tgt := 27) F dX11_guards_75 (by decide) ?_
          exact ih5 ((x5l.1 + 1), t6.1, t6.2) hf
        · try dsimp only at hf
          refine a_loop 36 (fun (x7l : Int32 × St × St) => [(0, .ref (a0 0)), (1, .int x1), (2, .int x2), (3, .int x3_4), (4, .int x5l.1), (5, .int x7l.1)]) (fun (x7l : Int32 × St × St) => [bX11 y a0 z0_tape z0_tokens z0_hillReader z0_lawReader (a1 0) (a2 0) z0_diary (a3 0) z0_draft z0_spareDiary z0_guess z0_past z0_imageHill z0_imageRules z0_imageDiary v0, bX3 y a1 v1, bX5 y a2 x7l.2.1, bX3 y a3 x7l.2.2]) (fun rc7 x7l ih7 hf => ?_) hf rfl rfl
          try dsimp only at hf ⊢
          refine a_iload (pc := 36) (j := 5) F dX11_guards_36 rfl ?_
          refine a_iloadn (pc := 38) (j := 3) F dX11_guards_38 rfl rfl ?_
          refine a_icmp_ge (pc := 39) (tgt := 72) F dX11_guards_39 (by decide) (fun h => ?_) (fun h => ?_)
          · replace hf := it_pos h hf
            refine a_sub [0, 1, 2, 3, 4] rfl ?_
            exact hK6 (x7l.2.1, x7l.2.2) hf
          · replace hf := it_neg h hf
            refine a_iload (pc := 42) (j := 5) F dX11_guards_42 rfl ?_
            obtain ⟨t8, ht8, hf⟩ := bd_some hf
            refine a_callS (pc := 44) (bs' := [bX11 y a0 z0_tape z0_tokens z0_hillReader z0_lawReader (a1 0) (a2 0) z0_diary (a3 0) z0_draft z0_spareDiary z0_guess z0_past z0_imageHill z0_imageRules z0_imageDiary v0, bX3 y a1 v1, bX5 y a2 x7l.2.1, bX3 y a3 x7l.2.2]) F [] (c_J6_bitCount_0f7a4 l D y ek n  _ _ ht8) (va_cwS 1 F.1.2.2.2.2 (gS q5_135 q5_100 q1_26 q5_101) rfl rfl rfl (by decide +kernel) ⟨Nat.le_of_ble_eq_true rfl, Nat.le_of_ble_eq_true rfl⟩) (by decide) rfl rfl rfl rfl rfl rfl (Nat.le_of_ble_eq_true rfl) ⟨Nat.zero_le _, Nat.zero_le _⟩ dX11_guards_44 ?_
            refine a_iload (pc := 47) (j := 4) F dX11_guards_47 rfl ?_
            refine a_jn 66 (fun (t9 : St × St) => [(0, .ref (a0 0)), (1, .int x1), (2, .int x2), (3, .int x3_4), (4, .int x5l.1), (5, .int x7l.1)]) (fun (t9 : St × St) => []) (fun (t9 : St × St) => [bX11 y a0 z0_tape z0_tokens z0_hillReader z0_lawReader (a1 0) (a2 0) z0_diary (a3 0) z0_draft z0_spareDiary z0_guess z0_past z0_imageHill z0_imageRules z0_imageDiary v0, bX3 y a1 v1, bX5 y a2 t9.1, bX3 y a3 t9.2]) hf (fun t9 hf => ?_) (fun K9 hK9 hf => ?_)
            · try dsimp only at hf ⊢
              refine a_iinc (pc := 66) (j := 5) (v := (x7l.1 + 1)) (lv' := [(0, .ref (a0 0)), (1, .int x1), (2, .int x2), (3, .int x3_4), (4, .int x5l.1), (5, .int (x7l.1 + 1))]) F [1, 2, 3, 4, 5, 0] dX11_guards_66 rfl ki_1 (by decide) rfl ?_
              refine a_goto (pc := 69) (tgt := 36) F dX11_guards_69 (by decide) ?_
              exact ih7 ((x7l.1 + 1), t9.1, t9.2) hf
            · try dsimp only at hf
              refine a_icmp_ne (pc := 49) (tgt := 66) F dX11_guards_49 (by decide) (fun h => ?_) (fun h => ?_)
              · replace hf := it_neg h hf
                exact hK9 (x7l.2.1, x7l.2.2) hf
              · replace hf := it_pos h hf
                refine a_aloadn (pc := 52) (j := 0) F dX11_guards_52 rfl rfl ?_
                refine a_iload (pc := 53) (j := 5) F dX11_guards_53 rfl ?_
                refine a_iloadn (pc := 55) (j := 1) F dX11_guards_55 rfl rfl ?_
                refine a_iloadn (pc := 56) (j := 2) F dX11_guards_56 rfl rfl ?_
                obtain ⟨t10, ht10, hf⟩ := bd_some hf
                refine a_callV (pc := 57) (bs' := [bX11 y a0 z0_tape z0_tokens z0_hillReader z0_lawReader (a1 0) (a2 0) z0_diary (a3 0) z0_draft z0_spareDiary z0_guess z0_past z0_imageHill z0_imageRules z0_imageDiary v0, bX3 y a1 v1, bX5 y a2 t10.2.1, bX3 y a3 t10.2.2]) (kb := 0) (j := 0) F [0, 1, 2, 3] (c_X11_isSafe l D y ek n a0 a1 a2 a3 z0_tape z0_tokens z0_hillReader z0_lawReader z0_diary z0_draft z0_spareDiary z0_guess z0_past z0_imageHill z0_imageRules z0_imageDiary _ _ _ _ _ _ _ _ ht10) (cwV 3 F.1.2.2.2.2 (gV q5_219 q5_221 qs_22 q1_1 q5_222) rfl rfl rfl (by decide +kernel) ⟨Nat.le_of_ble_eq_true rfl, Nat.le_of_ble_eq_true rfl⟩) rfl rfl rfl rfl (by decide) rfl rfl rfl rfl rfl rfl (Nat.le_of_ble_eq_true rfl) ⟨Nat.zero_le _, Nat.zero_le _⟩ dX11_guards_57 ?_
                refine a_if_eq (pc := 60) (tgt := 66) F dX11_guards_60 (by decide) (fun h => ?_) (fun h => ?_)
                · replace hf := it_pos h hf
                  exact hK9 (t10.2.1, t10.2.2) hf
                · replace hf := it_neg h hf
                  refine a_iload (pc := 63) (j := 5) F dX11_guards_63 rfl ?_
                  exact absurd hf (by simp)
    · replace hf := sm_inr hf
      obtain rfl := Sum.inr.inj (Option.some.inj hf)
      exact a_callSx (pc := 11) (bs' := [bX11 y a0 z0_tape z0_tokens z0_hillReader z0_lawReader (a1 0) (a2 0) z0_diary (a3 0) z0_draft z0_spareDiary z0_guess z0_past z0_imageHill z0_imageRules z0_imageDiary v0, bX3 y a1 v1, bX5 y a2 v2, bX3 y a3 v3]) F [] (x_X11_checkNumber l hlt D y ek n  _ _ _ _ ht2a) (va_cwS 3 F.1.2.2.2.2 (gS q5_19 q5_20 q1_1 q5_21) rfl rfl rfl (by decide +kernel) ⟨Nat.le_of_ble_eq_true rfl, Nat.le_of_ble_eq_true rfl⟩) (by decide) rfl rfl rfl rfl rfl rfl (Nat.le_of_ble_eq_true rfl) ⟨Nat.le_of_ble_eq_true rfl, Nat.le_of_ble_eq_true rfl⟩ dX11_guards_11 (fun H1 locs1 ls q9 ce h1 h2 h3 h4 h5 h6 h7 => hout H1 locs1 ls _ _ _ _ q9 ce h1 h2 h3 (Nat.le_of_ble_eq_true rfl) (Nat.le_of_ble_eq_true rfl) h5 h6 h7)
  · replace hf := sm_inr hf
    obtain rfl := Sum.inr.inj (Option.some.inj hf)
    exact a_callSx (pc := 4) (bs' := [bX11 y a0 z0_tape z0_tokens z0_hillReader z0_lawReader (a1 0) (a2 0) z0_diary (a3 0) z0_draft z0_spareDiary z0_guess z0_past z0_imageHill z0_imageRules z0_imageDiary v0, bX3 y a1 v1, bX5 y a2 v2, bX3 y a3 v3]) F [] (x_X11_checkNumber l hlt D y ek n  _ _ _ _ ht1a) (va_cwS 3 F.1.2.2.2.2 (gS q5_19 q5_20 q1_1 q5_21) rfl rfl rfl (by decide +kernel) ⟨Nat.le_of_ble_eq_true rfl, Nat.le_of_ble_eq_true rfl⟩) (by decide) rfl rfl rfl rfl rfl rfl (Nat.le_of_ble_eq_true rfl) ⟨Nat.le_of_ble_eq_true rfl, Nat.le_of_ble_eq_true rfl⟩ dX11_guards_4 (fun H1 locs1 ls q9 ce h1 h2 h3 h4 h5 h6 h7 => hout H1 locs1 ls _ _ _ _ q9 ce h1 h2 h3 (Nat.le_of_ble_eq_true rfl) (Nat.le_of_ble_eq_true rfl) h5 h6 h7)

abbrev wX11_loot : List Cond := Cond.code yX11_loot cX11_loot 5 (some .int) :: WALL
def m_X11_loot (n : Nat) (v0 : St) (v1 : St) (v2 : St) (v3 : St) (x1 : Int32) : Option ((Int32 × St × St) ⊕ (Nat × St × St)) :=
bd (m_X11_checkNumber n x1 0 10) (fun t1 => sm t1 (fun t1a =>
bd (m_X3_copyFrom n v3 v1) (fun t2 =>
lp (fun (rc3 : Int32 × Int32 × St × St → Option ((Int32 × St × St) ⊕ (Nat × St × St))) (x3l : Int32 × Int32 × St × St) =>
(if x1 ≤ x3l.2.1 then
some (Sum.inl (x3l.1, x3l.2.2.1, x3l.2.2.2))
else
bd (m_X3_stealOne n x3l.2.2.2 x3l.2.2.1 0) (fun t4 =>
bd ((if t4.1 = (-1) then
some 0
else
(if ix t4.1 10 then some (t4.2.1 16 (t4.1).toNatClampNeg) else none))) (fun (t5 : Int32) =>
nm (x3l.1 + t5) (fun x2_6 =>
rc3 (x2_6, (x3l.2.1 + 1), t4.2.2, t4.2.1)))))) n (0, 0, v2, t2))) (fun t1x => some (Sum.inr (t1x, v2, v3))))
set_option maxHeartbeats 4000000 in
set_option maxRecDepth 100000 in
theorem c_X11_loot (l : Launch) (D : va_G) (y : Nat → ClassId) (ek : EK) (n : Nat) (a0 : Nat → Nat) (a1 : Nat → Nat) (a2 : Nat → Nat) (a3 : Nat → Nat) (z0_tape : Nat) (z0_tokens : Nat) (z0_hillReader : Nat) (z0_lawReader : Nat) (z0_diary : Nat) (z0_draft : Nat) (z0_spareDiary : Nat) (z0_guess : Nat) (z0_past : Nat) (z0_imageHill : Nat) (z0_imageRules : Nat) (z0_imageDiary : Nat) (v0 : St) (v1 : St) (v2 : St) (v3 : St) (x1 : Int32) (res : Int32 × St × St) (hf : m_X11_loot n v0 v1 v2 v3 x1 = some (Sum.inl res)) : CI l yX11_loot wX11_loot { frames := 7, cells := 0, slots := 0, locals := 147 } D y ek [.ref (a0 0), .int x1] [bX11 y a0 z0_tape z0_tokens z0_hillReader z0_lawReader (a1 0) (a2 0) z0_diary (a3 0) z0_draft z0_spareDiary z0_guess z0_past z0_imageHill z0_imageRules z0_imageDiary v0, bX3 y a1 v1, bX5 y a2 v2, bX3 y a3 v3] (res.1) [bX11 y a0 z0_tape z0_tokens z0_hillReader z0_lawReader (a1 0) (a2 0) z0_diary (a3 0) z0_draft z0_spareDiary z0_guess z0_past z0_imageHill z0_imageRules z0_imageDiary v0, bX3 y a1 v1, bX5 y a2 res.2.1, bX3 y a3 res.2.2] 0 0 := by
  unfold m_X11_loot at hf
  refine ci_of (cc := cX11_loot) (maxL := 5) (by decide) rfl rfl (Nat.le_of_ble_eq_true rfl) ?_
  intro p e s m below meth c Q A F hret
  refine a_lv (lv' := [(0, .ref (a0 0)), (1, .int x1)]) rfl ?_
  refine a_iloadn (pc := 0) (j := 1) F dX11_loot_0 rfl rfl ?_
  refine a_iconst (pc := 1) F dX11_loot_1 kc_0 ?_
  refine a_bipush (pc := 2) F dX11_loot_2 kb_10 ?_
  obtain ⟨t1, ht1a, hf⟩ := bd_some hf
  rcases t1 with t1a | t1x
  · replace hf := sm_inl hf
    refine a_callSv (pc := 4) (bs' := [bX11 y a0 z0_tape z0_tokens z0_hillReader z0_lawReader (a1 0) (a2 0) z0_diary (a3 0) z0_draft z0_spareDiary z0_guess z0_past z0_imageHill z0_imageRules z0_imageDiary v0, bX3 y a1 v1, bX5 y a2 v2, bX3 y a3 v3]) F [] (c_X11_checkNumber l D y ek n  _ _ _ _ ht1a) (va_cwS 3 F.1.2.2.2.2 (gS q5_19 q5_20 q1_1 q5_21) rfl rfl rfl (by decide +kernel) ⟨Nat.le_of_ble_eq_true rfl, Nat.le_of_ble_eq_true rfl⟩) (by decide) rfl rfl rfl rfl rfl rfl (Nat.le_of_ble_eq_true rfl) ⟨Nat.zero_le _, Nat.zero_le _⟩ dX11_loot_4 ?_
    refine a_aloadn (pc := 7) (j := 0) F dX11_loot_7 rfl rfl ?_
    refine a_get (pc := 8) (kb := 0) (j := 0) (f := 10) F iW_X11 rfl rfl rfl (by decide) (tl q2_66) (fun _ h => h) rfl dX11_loot_8 ?_
    refine a_aloadn (pc := 11) (j := 0) F dX11_loot_11 rfl rfl ?_
    refine a_get (pc := 12) (kb := 0) (j := 0) (f := 7) F iW_X11 rfl rfl rfl (by decide) (tl q2_63) (fun _ h => h) rfl dX11_loot_12 ?_
    obtain ⟨t2, ht2, hf⟩ := bd_some hf
    refine a_callVv (pc := 15) (bs' := [bX11 y a0 z0_tape z0_tokens z0_hillReader z0_lawReader (a1 0) (a2 0) z0_diary (a3 0) z0_draft z0_spareDiary z0_guess z0_past z0_imageHill z0_imageRules z0_imageDiary v0, bX3 y a1 v1, bX5 y a2 v2, bX3 y a3 t2]) (kb := 3) (j := 0) F [3, 1] (c_X3_copyFrom l D y ek n a3 a1 _ _ _ ht2) (cwV 1 F.1.2.2.2.2 (gV q2_197 q2_142 q2_143 q1_3 q2_144) rfl rfl rfl (by decide +kernel) ⟨Nat.le_of_ble_eq_true rfl, Nat.le_of_ble_eq_true rfl⟩) rfl rfl rfl rfl (by decide) rfl rfl rfl rfl rfl rfl (Nat.le_of_ble_eq_true rfl) ⟨Nat.zero_le _, Nat.zero_le _⟩ dX11_loot_15 ?_
    refine a_iconst (pc := 18) F dX11_loot_18 kc_0 ?_
    refine a_istoren (pc := 19) (lv' := [(0, .ref (a0 0)), (1, .int x1), (2, .int 0)]) F [1, 2, 0] dX11_loot_19 rfl (by decide) rfl ?_
    refine a_iconst (pc := 20) F dX11_loot_20 kc_0 ?_
    refine a_istoren (pc := 21) (lv' := [(0, .ref (a0 0)), (1, .int x1), (2, .int 0), (3, .int 0)]) F [1, 2, 3, 0] dX11_loot_21 rfl (by decide) rfl ?_
    refine a_loop 22 (fun (x3l : Int32 × Int32 × St × St) => [(0, .ref (a0 0)), (1, .int x1), (2, .int x3l.1), (3, .int x3l.2.1)]) (fun (x3l : Int32 × Int32 × St × St) => [bX11 y a0 z0_tape z0_tokens z0_hillReader z0_lawReader (a1 0) (a2 0) z0_diary (a3 0) z0_draft z0_spareDiary z0_guess z0_past z0_imageHill z0_imageRules z0_imageDiary v0, bX3 y a1 v1, bX5 y a2 x3l.2.2.1, bX3 y a3 x3l.2.2.2]) (fun rc3 x3l ih3 hf => ?_) hf rfl rfl
    try dsimp only at hf ⊢
    refine a_iloadn (pc := 22) (j := 3) F dX11_loot_22 rfl rfl ?_
    refine a_iloadn (pc := 23) (j := 1) F dX11_loot_23 rfl rfl ?_
    refine a_icmp_ge (pc := 24) (tgt := 70) F dX11_loot_24 (by decide) (fun h => ?_) (fun h => ?_)
    · replace hf := it_pos h hf
      refine a_iloadn (pc := 70) (j := 2) F dX11_loot_70 rfl rfl ?_
      obtain rfl := Sum.inl.inj (Option.some.inj hf)
      exact hret _ _ _ _ (Nat.zero_le _) (Nat.zero_le _) rfl dX11_loot_71
    · replace hf := it_neg h hf
      refine a_aloadn (pc := 27) (j := 0) F dX11_loot_27 rfl rfl ?_
      refine a_get (pc := 28) (kb := 0) (j := 0) (f := 10) F iW_X11 rfl rfl rfl (by decide) (tl q2_66) (fun _ h => h) rfl dX11_loot_28 ?_
      refine a_aloadn (pc := 31) (j := 0) F dX11_loot_31 rfl rfl ?_
      refine a_get (pc := 32) (kb := 0) (j := 0) (f := 8) F iW_X11 rfl rfl rfl (by decide) (tl q2_64) (fun _ h => h) rfl dX11_loot_32 ?_
      refine a_iconst (pc := 35) F dX11_loot_35 kc_0 ?_
      obtain ⟨t4, ht4, hf⟩ := bd_some hf
      refine a_callV (pc := 36) (bs' := [bX11 y a0 z0_tape z0_tokens z0_hillReader z0_lawReader (a1 0) (a2 0) z0_diary (a3 0) z0_draft z0_spareDiary z0_guess z0_past z0_imageHill z0_imageRules z0_imageDiary v0, bX3 y a1 v1, bX5 y a2 t4.2.2, bX3 y a3 t4.2.1]) (kb := 3) (j := 0) F [3, 2] (c_X3_stealOne l D y ek n a3 a2 _ _ _ _ ht4) (cwV 2 F.1.2.2.2.2 (gV q5_223 q5_224 q5_225 q1_3 q5_226) rfl rfl rfl (by decide +kernel) ⟨Nat.le_of_ble_eq_true rfl, Nat.le_of_ble_eq_true rfl⟩) rfl rfl rfl rfl (by decide) rfl rfl rfl rfl rfl rfl (Nat.le_of_ble_eq_true rfl) ⟨Nat.zero_le _, Nat.zero_le _⟩ dX11_loot_36 ?_
      refine a_istore (pc := 39) (lv' := [(0, .ref (a0 0)), (1, .int x1), (2, .int x3l.1), (3, .int x3l.2.1), (4, .int t4.1)]) F [1, 2, 3, 4, 0] dX11_loot_39 (by decide) rfl ?_
      refine a_iloadn (pc := 41) (j := 2) F dX11_loot_41 rfl rfl ?_
      refine a_iload (pc := 42) (j := 4) F dX11_loot_42 rfl ?_
      refine a_iconst (pc := 44) F dX11_loot_44 kc_m1 ?_
      refine a_join 62 (fun (t5 : Int32) => [(0, .ref (a0 0)), (1, .int x1), (3, .int x3l.2.1)]) (fun (t5 : Int32) => [.int t5, .int x3l.1]) (fun (t5 : Int32) => [bX11 y a0 z0_tape z0_tokens z0_hillReader z0_lawReader (a1 0) (a2 0) z0_diary (a3 0) z0_draft z0_spareDiary z0_guess z0_past z0_imageHill z0_imageRules z0_imageDiary v0, bX3 y a1 v1, bX5 y a2 t4.2.2, bX3 y a3 t4.2.1]) hf (fun t5 hf => ?_) (fun t5 hf J5 => ?_)
      · try dsimp only at hf ⊢
        refine a_iadd (pc := 62) F dX11_loot_62 ?_
        obtain ⟨x2_6, ex2_6, hf⟩ := nm_some hf
        refine a_nmi ex2_6 ?_
        refine a_istoren (pc := 63) (lv' := [(0, .ref (a0 0)), (1, .int x1), (2, .int x2_6), (3, .int x3l.2.1)]) F [1, 2, 0, 3] dX11_loot_63 rfl (by decide) rfl ?_
        refine a_iinc (pc := 64) (j := 3) (v := (x3l.2.1 + 1)) (lv' := [(0, .ref (a0 0)), (1, .int x1), (2, .int x2_6), (3, .int (x3l.2.1 + 1))]) F [1, 2, 3, 0] dX11_loot_64 rfl ki_1 (by decide) rfl ?_
        refine a_goto (pc := 67) (tgt := 22) F dX11_loot_67 (by decide) ?_
        exact ih3 (x2_6, (x3l.2.1 + 1), t4.2.2, t4.2.1) hf
      · refine a_icmp_ne (pc := 45) (tgt := 52) F dX11_loot_45 (by decide) (fun h => ?_) (fun h => ?_)
        · replace hf := it_neg h hf
          refine a_aloadn (pc := 52) (j := 0) F dX11_loot_52 rfl rfl ?_
          refine a_get (pc := 53) (kb := 0) (j := 0) (f := 10) F iW_X11 rfl rfl rfl (by decide) (tl q2_66) (fun _ h => h) rfl dX11_loot_53 ?_
          refine a_get (pc := 56) (kb := 3) (j := 0) (f := 16) F iW_X3 rfl rfl rfl (by decide) (tl q1_111) (fun _ h => h) rfl dX11_loot_56 ?_
          refine a_iload (pc := 59) (j := 4) F dX11_loot_59 rfl ?_
          obtain ⟨h7, hf⟩ := gd_some hf
          refine a_iald (pc := 61) (kb := 3) (j := 8) F rfl rfl h7 dX11_loot_61 ?_
          refine a_sub [0, 1, 3] rfl ?_
          obtain rfl := Option.some.inj hf
          exact J5
        · replace hf := it_pos h hf
          refine a_iconst (pc := 48) F dX11_loot_48 kc_0 ?_
          refine a_goto (pc := 49) (tgt := 62) F dX11_loot_49 (by decide) ?_
          refine a_sub [0, 1, 3] rfl ?_
          obtain rfl := Option.some.inj hf
          exact J5
  · replace hf := sm_inr hf
    exact absurd hf (by simp)
set_option maxHeartbeats 4000000 in
set_option maxRecDepth 100000 in
theorem x_X11_loot (l : Launch) (hlt : l.stackTraces = false) (D : va_G) (y : Nat → ClassId) (ek : EK) (n : Nat) (a0 : Nat → Nat) (a1 : Nat → Nat) (a2 : Nat → Nat) (a3 : Nat → Nat) (z0_tape : Nat) (z0_tokens : Nat) (z0_hillReader : Nat) (z0_lawReader : Nat) (z0_diary : Nat) (z0_draft : Nat) (z0_spareDiary : Nat) (z0_guess : Nat) (z0_past : Nat) (z0_imageHill : Nat) (z0_imageRules : Nat) (z0_imageDiary : Nat) (v0 : St) (v1 : St) (v2 : St) (v3 : St) (x1 : Int32) (res : Nat × St × St) (hf : m_X11_loot n v0 v1 v2 v3 x1 = some (Sum.inr res)) : CX l yX11_loot wX11_loot { frames := 7, cells := 1, slots := 6, locals := 147 } D y ek [.ref (a0 0), .int x1] [bX11 y a0 z0_tape z0_tokens z0_hillReader z0_lawReader (a1 0) (a2 0) z0_diary (a3 0) z0_draft z0_spareDiary z0_guess z0_past z0_imageHill z0_imageRules z0_imageDiary v0, bX3 y a1 v1, bX5 y a2 v2, bX3 y a3 v3] (eX.getD res.1 "") [bX11 y a0 z0_tape z0_tokens z0_hillReader z0_lawReader (a1 0) (a2 0) z0_diary (a3 0) z0_draft z0_spareDiary z0_guess z0_past z0_imageHill z0_imageRules z0_imageDiary v0, bX3 y a1 v1, bX5 y a2 res.2.1, bX3 y a3 res.2.2] 1 6 := by
  unfold m_X11_loot at hf
  refine cx_of (cc := cX11_loot) (maxL := 5) hlt (by decide) rfl (Nat.le_of_ble_eq_true rfl) (Nat.le_refl 1) (Nat.le_refl 6) ?_
  intro p e s m below meth c Q A F hthr hout
  refine a_lv (lv' := [(0, .ref (a0 0)), (1, .int x1)]) rfl ?_
  refine a_iloadn (pc := 0) (j := 1) F dX11_loot_0 rfl rfl ?_
  refine a_iconst (pc := 1) F dX11_loot_1 kc_0 ?_
  refine a_bipush (pc := 2) F dX11_loot_2 kb_10 ?_
  obtain ⟨t1, ht1a, hf⟩ := bd_some hf
  rcases t1 with t1a | t1x
  · replace hf := sm_inl hf
    refine a_callSv (pc := 4) (bs' := [bX11 y a0 z0_tape z0_tokens z0_hillReader z0_lawReader (a1 0) (a2 0) z0_diary (a3 0) z0_draft z0_spareDiary z0_guess z0_past z0_imageHill z0_imageRules z0_imageDiary v0, bX3 y a1 v1, bX5 y a2 v2, bX3 y a3 v3]) F [] (c_X11_checkNumber l D y ek n  _ _ _ _ ht1a) (va_cwS 3 F.1.2.2.2.2 (gS q5_19 q5_20 q1_1 q5_21) rfl rfl rfl (by decide +kernel) ⟨Nat.le_of_ble_eq_true rfl, Nat.le_of_ble_eq_true rfl⟩) (by decide) rfl rfl rfl rfl rfl rfl (Nat.le_of_ble_eq_true rfl) ⟨Nat.zero_le _, Nat.zero_le _⟩ dX11_loot_4 ?_
    refine a_aloadn (pc := 7) (j := 0) F dX11_loot_7 rfl rfl ?_
    refine a_get (pc := 8) (kb := 0) (j := 0) (f := 10) F iW_X11 rfl rfl rfl (by decide) (tl q2_66) (fun _ h => h) rfl dX11_loot_8 ?_
    refine a_aloadn (pc := 11) (j := 0) F dX11_loot_11 rfl rfl ?_
    refine a_get (pc := 12) (kb := 0) (j := 0) (f := 7) F iW_X11 rfl rfl rfl (by decide) (tl q2_63) (fun _ h => h) rfl dX11_loot_12 ?_
    obtain ⟨t2, ht2, hf⟩ := bd_some hf
    refine a_callVv (pc := 15) (bs' := [bX11 y a0 z0_tape z0_tokens z0_hillReader z0_lawReader (a1 0) (a2 0) z0_diary (a3 0) z0_draft z0_spareDiary z0_guess z0_past z0_imageHill z0_imageRules z0_imageDiary v0, bX3 y a1 v1, bX5 y a2 v2, bX3 y a3 t2]) (kb := 3) (j := 0) F [3, 1] (c_X3_copyFrom l D y ek n a3 a1 _ _ _ ht2) (cwV 1 F.1.2.2.2.2 (gV q2_197 q2_142 q2_143 q1_3 q2_144) rfl rfl rfl (by decide +kernel) ⟨Nat.le_of_ble_eq_true rfl, Nat.le_of_ble_eq_true rfl⟩) rfl rfl rfl rfl (by decide) rfl rfl rfl rfl rfl rfl (Nat.le_of_ble_eq_true rfl) ⟨Nat.zero_le _, Nat.zero_le _⟩ dX11_loot_15 ?_
    refine a_iconst (pc := 18) F dX11_loot_18 kc_0 ?_
    refine a_istoren (pc := 19) (lv' := [(0, .ref (a0 0)), (1, .int x1), (2, .int 0)]) F [1, 2, 0] dX11_loot_19 rfl (by decide) rfl ?_
    refine a_iconst (pc := 20) F dX11_loot_20 kc_0 ?_
    refine a_istoren (pc := 21) (lv' := [(0, .ref (a0 0)), (1, .int x1), (2, .int 0), (3, .int 0)]) F [1, 2, 3, 0] dX11_loot_21 rfl (by decide) rfl ?_
    refine a_loop 22 (fun (x3l : Int32 × Int32 × St × St) => [(0, .ref (a0 0)), (1, .int x1), (2, .int x3l.1), (3, .int x3l.2.1)]) (fun (x3l : Int32 × Int32 × St × St) => [bX11 y a0 z0_tape z0_tokens z0_hillReader z0_lawReader (a1 0) (a2 0) z0_diary (a3 0) z0_draft z0_spareDiary z0_guess z0_past z0_imageHill z0_imageRules z0_imageDiary v0, bX3 y a1 v1, bX5 y a2 x3l.2.2.1, bX3 y a3 x3l.2.2.2]) (fun rc3 x3l ih3 hf => ?_) hf rfl rfl
    try dsimp only at hf ⊢
    refine a_iloadn (pc := 22) (j := 3) F dX11_loot_22 rfl rfl ?_
    refine a_iloadn (pc := 23) (j := 1) F dX11_loot_23 rfl rfl ?_
    refine a_icmp_ge (pc := 24) (tgt := 70) F dX11_loot_24 (by decide) (fun h => ?_) (fun h => ?_)
    · replace hf := it_pos h hf
      refine a_iloadn (pc := 70) (j := 2) F dX11_loot_70 rfl rfl ?_
      exact absurd hf (by simp)
    · replace hf := it_neg h hf
      refine a_aloadn (pc := 27) (j := 0) F dX11_loot_27 rfl rfl ?_
      refine a_get (pc := 28) (kb := 0) (j := 0) (f := 10) F iW_X11 rfl rfl rfl (by decide) (tl q2_66) (fun _ h => h) rfl dX11_loot_28 ?_
      refine a_aloadn (pc := 31) (j := 0) F dX11_loot_31 rfl rfl ?_
      refine a_get (pc := 32) (kb := 0) (j := 0) (f := 8) F iW_X11 rfl rfl rfl (by decide) (tl q2_64) (fun _ h => h) rfl dX11_loot_32 ?_
      refine a_iconst (pc := 35) F dX11_loot_35 kc_0 ?_
      obtain ⟨t4, ht4, hf⟩ := bd_some hf
      refine a_callV (pc := 36) (bs' := [bX11 y a0 z0_tape z0_tokens z0_hillReader z0_lawReader (a1 0) (a2 0) z0_diary (a3 0) z0_draft z0_spareDiary z0_guess z0_past z0_imageHill z0_imageRules z0_imageDiary v0, bX3 y a1 v1, bX5 y a2 t4.2.2, bX3 y a3 t4.2.1]) (kb := 3) (j := 0) F [3, 2] (c_X3_stealOne l D y ek n a3 a2 _ _ _ _ ht4) (cwV 2 F.1.2.2.2.2 (gV q5_223 q5_224 q5_225 q1_3 q5_226) rfl rfl rfl (by decide +kernel) ⟨Nat.le_of_ble_eq_true rfl, Nat.le_of_ble_eq_true rfl⟩) rfl rfl rfl rfl (by decide) rfl rfl rfl rfl rfl rfl (Nat.le_of_ble_eq_true rfl) ⟨Nat.zero_le _, Nat.zero_le _⟩ dX11_loot_36 ?_
      refine a_istore (pc := 39) (lv' := [(0, .ref (a0 0)), (1, .int x1), (2, .int x3l.1), (3, .int x3l.2.1), (4, .int t4.1)]) F [1, 2, 3, 4, 0] dX11_loot_39 (by decide) rfl ?_
      refine a_iloadn (pc := 41) (j := 2) F dX11_loot_41 rfl rfl ?_
      refine a_iload (pc := 42) (j := 4) F dX11_loot_42 rfl ?_
      refine a_iconst (pc := 44) F dX11_loot_44 kc_m1 ?_
      refine a_join 62 (fun (t5 : Int32) => [(0, .ref (a0 0)), (1, .int x1), (3, .int x3l.2.1)]) (fun (t5 : Int32) => [.int t5, .int x3l.1]) (fun (t5 : Int32) => [bX11 y a0 z0_tape z0_tokens z0_hillReader z0_lawReader (a1 0) (a2 0) z0_diary (a3 0) z0_draft z0_spareDiary z0_guess z0_past z0_imageHill z0_imageRules z0_imageDiary v0, bX3 y a1 v1, bX5 y a2 t4.2.2, bX3 y a3 t4.2.1]) hf (fun t5 hf => ?_) (fun t5 hf J5 => ?_)
      · try dsimp only at hf ⊢
        refine a_iadd (pc := 62) F dX11_loot_62 ?_
        obtain ⟨x2_6, ex2_6, hf⟩ := nm_some hf
        refine a_nmi ex2_6 ?_
        refine a_istoren (pc := 63) (lv' := [(0, .ref (a0 0)), (1, .int x1), (2, .int x2_6), (3, .int x3l.2.1)]) F [1, 2, 0, 3] dX11_loot_63 rfl (by decide) rfl ?_
        refine a_iinc (pc := 64) (j := 3) (v := (x3l.2.1 + 1)) (lv' := [(0, .ref (a0 0)), (1, .int x1), (2, .int x2_6), (3, .int (x3l.2.1 + 1))]) F [1, 2, 3, 0] dX11_loot_64 rfl ki_1 (by decide) rfl ?_
        refine a_goto (pc := 67) (tgt := 22) F dX11_loot_67 (by decide) ?_
        exact ih3 (x2_6, (x3l.2.1 + 1), t4.2.2, t4.2.1) hf
      · refine a_icmp_ne (pc := 45) (tgt := 52) F dX11_loot_45 (by decide) (fun h => ?_) (fun h => ?_)
        · replace hf := it_neg h hf
          refine a_aloadn (pc := 52) (j := 0) F dX11_loot_52 rfl rfl ?_
          refine a_get (pc := 53) (kb := 0) (j := 0) (f := 10) F iW_X11 rfl rfl rfl (by decide) (tl q2_66) (fun _ h => h) rfl dX11_loot_53 ?_
          refine a_get (pc := 56) (kb := 3) (j := 0) (f := 16) F iW_X3 rfl rfl rfl (by decide) (tl q1_111) (fun _ h => h) rfl dX11_loot_56 ?_
          refine a_iload (pc := 59) (j := 4) F dX11_loot_59 rfl ?_
          obtain ⟨h7, hf⟩ := gd_some hf
          refine a_iald (pc := 61) (kb := 3) (j := 8) F rfl rfl h7 dX11_loot_61 ?_
          refine a_sub [0, 1, 3] rfl ?_
          obtain rfl := Option.some.inj hf
          exact J5
        · replace hf := it_pos h hf
          refine a_iconst (pc := 48) F dX11_loot_48 kc_0 ?_
          refine a_goto (pc := 49) (tgt := 62) F dX11_loot_49 (by decide) ?_
          refine a_sub [0, 1, 3] rfl ?_
          obtain rfl := Option.some.inj hf
          exact J5
  · replace hf := sm_inr hf
    obtain rfl := Sum.inr.inj (Option.some.inj hf)
    exact a_callSx (pc := 4) (bs' := [bX11 y a0 z0_tape z0_tokens z0_hillReader z0_lawReader (a1 0) (a2 0) z0_diary (a3 0) z0_draft z0_spareDiary z0_guess z0_past z0_imageHill z0_imageRules z0_imageDiary v0, bX3 y a1 v1, bX5 y a2 v2, bX3 y a3 v3]) F [] (x_X11_checkNumber l hlt D y ek n  _ _ _ _ ht1a) (va_cwS 3 F.1.2.2.2.2 (gS q5_19 q5_20 q1_1 q5_21) rfl rfl rfl (by decide +kernel) ⟨Nat.le_of_ble_eq_true rfl, Nat.le_of_ble_eq_true rfl⟩) (by decide) rfl rfl rfl rfl rfl rfl (Nat.le_of_ble_eq_true rfl) ⟨Nat.le_of_ble_eq_true rfl, Nat.le_of_ble_eq_true rfl⟩ dX11_loot_4 (fun H1 locs1 ls q9 ce h1 h2 h3 h4 h5 h6 h7 => hout H1 locs1 ls _ _ _ _ q9 ce h1 h2 h3 (Nat.le_of_ble_eq_true rfl) (Nat.le_of_ble_eq_true rfl) h5 h6 h7)

abbrev wX11_lookAhead : List Cond := Cond.code yX11_lookAhead cX11_lookAhead 4 none :: WALL
def m_X11_lookAhead (n : Nat) (v0 : St) (v1 : St) (v2 : St) (v3 : St) (x1 : Int32) (x2 : Int32) : Option (St × St) :=
bd (m_X3_copyFrom n v3 v1) (fun t1 =>
lp (fun (rc2 : Int32 × St × St → Option (St × St)) (x2l : Int32 × St × St) =>
(if x2 ≤ x2l.1 then
some (x2l.2.1, x2l.2.2)
else
bd (m_X3_payAndGrowOld n x2l.2.2 x2l.2.1 x1) (fun t3 =>
bd (m_X3_turnWeek n t3.1) (fun t4 =>
rc2 ((x2l.1 + 1), t3.2, t4))))) n (0, v2, t1))
set_option maxHeartbeats 4000000 in
set_option maxRecDepth 100000 in
theorem c_X11_lookAhead (l : Launch) (D : va_G) (y : Nat → ClassId) (ek : EK) (n : Nat) (a0 : Nat → Nat) (a1 : Nat → Nat) (a2 : Nat → Nat) (a3 : Nat → Nat) (z0_tape : Nat) (z0_tokens : Nat) (z0_hillReader : Nat) (z0_lawReader : Nat) (z0_diary : Nat) (z0_draft : Nat) (z0_spareDiary : Nat) (z0_guess : Nat) (z0_past : Nat) (z0_imageHill : Nat) (z0_imageRules : Nat) (z0_imageDiary : Nat) (v0 : St) (v1 : St) (v2 : St) (v3 : St) (x1 : Int32) (x2 : Int32) (res : St × St) (hf : m_X11_lookAhead n v0 v1 v2 v3 x1 x2 = some res) : CV l yX11_lookAhead wX11_lookAhead { frames := 6, cells := 0, slots := 0, locals := 143 } D y ek [.ref (a0 0), .int x1, .int x2] [bX11 y a0 z0_tape z0_tokens z0_hillReader z0_lawReader (a1 0) (a2 0) z0_diary (a3 0) z0_draft z0_spareDiary z0_guess z0_past z0_imageHill z0_imageRules z0_imageDiary v0, bX3 y a1 v1, bX5 y a2 v2, bX3 y a3 v3] [bX11 y a0 z0_tape z0_tokens z0_hillReader z0_lawReader (a1 0) (a2 0) z0_diary (a3 0) z0_draft z0_spareDiary z0_guess z0_past z0_imageHill z0_imageRules z0_imageDiary v0, bX3 y a1 v1, bX5 y a2 res.1, bX3 y a3 res.2] 0 0 := by
  unfold m_X11_lookAhead at hf
  refine cv_of (cc := cX11_lookAhead) (maxL := 4) (by decide) rfl rfl (Nat.le_of_ble_eq_true rfl) ?_
  intro p e s m below meth c Q A F hret
  refine a_lv (lv' := [(0, .ref (a0 0)), (1, .int x1), (2, .int x2)]) rfl ?_
  refine a_aloadn (pc := 0) (j := 0) F dX11_lookAhead_0 rfl rfl ?_
  refine a_get (pc := 1) (kb := 0) (j := 0) (f := 10) F iW_X11 rfl rfl rfl (by decide) (tl q2_66) (fun _ h => h) rfl dX11_lookAhead_1 ?_
  refine a_aloadn (pc := 4) (j := 0) F dX11_lookAhead_4 rfl rfl ?_
  refine a_get (pc := 5) (kb := 0) (j := 0) (f := 7) F iW_X11 rfl rfl rfl (by decide) (tl q2_63) (fun _ h => h) rfl dX11_lookAhead_5 ?_
  obtain ⟨t1, ht1, hf⟩ := bd_some hf
  refine a_callVv (pc := 8) (bs' := [bX11 y a0 z0_tape z0_tokens z0_hillReader z0_lawReader (a1 0) (a2 0) z0_diary (a3 0) z0_draft z0_spareDiary z0_guess z0_past z0_imageHill z0_imageRules z0_imageDiary v0, bX3 y a1 v1, bX5 y a2 v2, bX3 y a3 t1]) (kb := 3) (j := 0) F [3, 1] (c_X3_copyFrom l D y ek n a3 a1 _ _ _ ht1) (cwV 1 F.1.2.2.2.2 (gV q2_197 q2_142 q2_143 q1_3 q2_144) rfl rfl rfl (by decide +kernel) ⟨Nat.le_of_ble_eq_true rfl, Nat.le_of_ble_eq_true rfl⟩) rfl rfl rfl rfl (by decide) rfl rfl rfl rfl rfl rfl (Nat.le_of_ble_eq_true rfl) ⟨Nat.zero_le _, Nat.zero_le _⟩ dX11_lookAhead_8 ?_
  refine a_iconst (pc := 11) F dX11_lookAhead_11 kc_0 ?_
  refine a_istoren (pc := 12) (lv' := [(0, .ref (a0 0)), (1, .int x1), (2, .int x2), (3, .int 0)]) F [1, 2, 3, 0] dX11_lookAhead_12 rfl (by decide) rfl ?_
  refine a_loop 13 (fun (x2l : Int32 × St × St) => [(0, .ref (a0 0)), (1, .int x1), (2, .int x2), (3, .int x2l.1)]) (fun (x2l : Int32 × St × St) => [bX11 y a0 z0_tape z0_tokens z0_hillReader z0_lawReader (a1 0) (a2 0) z0_diary (a3 0) z0_draft z0_spareDiary z0_guess z0_past z0_imageHill z0_imageRules z0_imageDiary v0, bX3 y a1 v1, bX5 y a2 x2l.2.1, bX3 y a3 x2l.2.2]) (fun rc2 x2l ih2 hf => ?_) hf rfl rfl
  try dsimp only at hf ⊢
  refine a_iloadn (pc := 13) (j := 3) F dX11_lookAhead_13 rfl rfl ?_
  refine a_iloadn (pc := 14) (j := 2) F dX11_lookAhead_14 rfl rfl ?_
  refine a_icmp_ge (pc := 15) (tgt := 43) F dX11_lookAhead_15 (by decide) (fun h => ?_) (fun h => ?_)
  · replace hf := it_pos h hf
    obtain rfl := Option.some.inj hf
    exact hret _ _ _ _ (Nat.zero_le _) (Nat.zero_le _) dX11_lookAhead_43
  · replace hf := it_neg h hf
    refine a_aloadn (pc := 18) (j := 0) F dX11_lookAhead_18 rfl rfl ?_
    refine a_get (pc := 19) (kb := 0) (j := 0) (f := 10) F iW_X11 rfl rfl rfl (by decide) (tl q2_66) (fun _ h => h) rfl dX11_lookAhead_19 ?_
    refine a_aloadn (pc := 22) (j := 0) F dX11_lookAhead_22 rfl rfl ?_
    refine a_get (pc := 23) (kb := 0) (j := 0) (f := 8) F iW_X11 rfl rfl rfl (by decide) (tl q2_64) (fun _ h => h) rfl dX11_lookAhead_23 ?_
    refine a_iloadn (pc := 26) (j := 1) F dX11_lookAhead_26 rfl rfl ?_
    obtain ⟨t3, ht3, hf⟩ := bd_some hf
    refine a_callVv (pc := 27) (bs' := [bX11 y a0 z0_tape z0_tokens z0_hillReader z0_lawReader (a1 0) (a2 0) z0_diary (a3 0) z0_draft z0_spareDiary z0_guess z0_past z0_imageHill z0_imageRules z0_imageDiary v0, bX3 y a1 v1, bX5 y a2 t3.2, bX3 y a3 t3.1]) (kb := 3) (j := 0) F [3, 2] (c_X3_payAndGrowOld l D y ek n a3 a2 _ _ _ _ ht3) (cwV 2 F.1.2.2.2.2 (gV q3_17 q3_18 q3_19 q1_3 q3_20) rfl rfl rfl (by decide +kernel) ⟨Nat.le_of_ble_eq_true rfl, Nat.le_of_ble_eq_true rfl⟩) rfl rfl rfl rfl (by decide) rfl rfl rfl rfl rfl rfl (Nat.le_of_ble_eq_true rfl) ⟨Nat.zero_le _, Nat.zero_le _⟩ dX11_lookAhead_27 ?_
    refine a_aloadn (pc := 30) (j := 0) F dX11_lookAhead_30 rfl rfl ?_
    refine a_get (pc := 31) (kb := 0) (j := 0) (f := 10) F iW_X11 rfl rfl rfl (by decide) (tl q2_66) (fun _ h => h) rfl dX11_lookAhead_31 ?_
    obtain ⟨t4, ht4, hf⟩ := bd_some hf
    refine a_callVv (pc := 34) (bs' := [bX11 y a0 z0_tape z0_tokens z0_hillReader z0_lawReader (a1 0) (a2 0) z0_diary (a3 0) z0_draft z0_spareDiary z0_guess z0_past z0_imageHill z0_imageRules z0_imageDiary v0, bX3 y a1 v1, bX5 y a2 t3.2, bX3 y a3 t4]) (kb := 3) (j := 0) F [3] (c_X3_turnWeek l D y ek n a3 _ _ ht4) (cwV 0 F.1.2.2.2.2 (gV q2_228 q2_229 q2_230 q1_3 q2_231) rfl rfl rfl (by decide +kernel) ⟨Nat.le_of_ble_eq_true rfl, Nat.le_of_ble_eq_true rfl⟩) rfl rfl rfl rfl (by decide) rfl rfl rfl rfl rfl rfl (Nat.le_of_ble_eq_true rfl) ⟨Nat.zero_le _, Nat.zero_le _⟩ dX11_lookAhead_34 ?_
    refine a_iinc (pc := 37) (j := 3) (v := (x2l.1 + 1)) (lv' := [(0, .ref (a0 0)), (1, .int x1), (2, .int x2), (3, .int (x2l.1 + 1))]) F [1, 2, 3, 0] dX11_lookAhead_37 rfl ki_1 (by decide) rfl ?_
    refine a_goto (pc := 40) (tgt := 13) F dX11_lookAhead_40 (by decide) ?_
    exact ih2 ((x2l.1 + 1), t3.2, t4) hf

abbrev wX11_rent : List Cond := Cond.code yX11_rent cX11_rent 3 (some .int) :: WALL
def m_X11_rent (n : Nat) (v0 : St) (v1 : St) (v2 : St) (v3 : St) (x1 : Int32) (x2 : Int32) : Option ((Int32 × St × St) ⊕ (Nat × St × St)) :=
bd (m_X11_checkHouse n v0 v1 x1) (fun t1 => sm t1 (fun t1a =>
bd (m_X11_checkNumber n x2 0 100) (fun t2 => sm t2 (fun t2a =>
bd (m_X11_lookAhead n v0 v1 v2 v3 (x1 / 2) x2) (fun t3 =>
(if ix x1 10 then (if ix x1 10 then some (Sum.inl (((v1 13 (x1).toNatClampNeg) - (t3.2 13 (x1).toNatClampNeg)), t3.1, t3.2)) else none) else none))) (fun t2x => some (Sum.inr (t2x, v2, v3))))) (fun t1x => some (Sum.inr (t1x, v2, v3))))
set_option maxHeartbeats 4000000 in
set_option maxRecDepth 100000 in
theorem c_X11_rent (l : Launch) (D : va_G) (y : Nat → ClassId) (ek : EK) (n : Nat) (a0 : Nat → Nat) (a1 : Nat → Nat) (a2 : Nat → Nat) (a3 : Nat → Nat) (z0_tape : Nat) (z0_tokens : Nat) (z0_hillReader : Nat) (z0_lawReader : Nat) (z0_diary : Nat) (z0_draft : Nat) (z0_spareDiary : Nat) (z0_guess : Nat) (z0_past : Nat) (z0_imageHill : Nat) (z0_imageRules : Nat) (z0_imageDiary : Nat) (v0 : St) (v1 : St) (v2 : St) (v3 : St) (x1 : Int32) (x2 : Int32) (res : Int32 × St × St) (hf : m_X11_rent n v0 v1 v2 v3 x1 x2 = some (Sum.inl res)) : CI l yX11_rent wX11_rent { frames := 7, cells := 0, slots := 0, locals := 166 } D y ek [.ref (a0 0), .int x1, .int x2] [bX11 y a0 z0_tape z0_tokens z0_hillReader z0_lawReader (a1 0) (a2 0) z0_diary (a3 0) z0_draft z0_spareDiary z0_guess z0_past z0_imageHill z0_imageRules z0_imageDiary v0, bX3 y a1 v1, bX5 y a2 v2, bX3 y a3 v3] (res.1) [bX11 y a0 z0_tape z0_tokens z0_hillReader z0_lawReader (a1 0) (a2 0) z0_diary (a3 0) z0_draft z0_spareDiary z0_guess z0_past z0_imageHill z0_imageRules z0_imageDiary v0, bX3 y a1 v1, bX5 y a2 res.2.1, bX3 y a3 res.2.2] 0 0 := by
  unfold m_X11_rent at hf
  refine ci_of (cc := cX11_rent) (maxL := 3) (by decide) rfl rfl (Nat.le_of_ble_eq_true rfl) ?_
  intro p e s m below meth c Q A F hret
  refine a_lv (lv' := [(0, .ref (a0 0)), (1, .int x1), (2, .int x2)]) rfl ?_
  refine a_aloadn (pc := 0) (j := 0) F dX11_rent_0 rfl rfl ?_
  refine a_iloadn (pc := 1) (j := 1) F dX11_rent_1 rfl rfl ?_
  obtain ⟨t1, ht1a, hf⟩ := bd_some hf
  rcases t1 with t1a | t1x
  · replace hf := sm_inl hf
    refine a_callVv (pc := 2) (bs' := [bX11 y a0 z0_tape z0_tokens z0_hillReader z0_lawReader (a1 0) (a2 0) z0_diary (a3 0) z0_draft z0_spareDiary z0_guess z0_past z0_imageHill z0_imageRules z0_imageDiary v0, bX3 y a1 v1, bX5 y a2 v2, bX3 y a3 v3]) (kb := 0) (j := 0) F [0, 1] (c_X11_checkHouse l D y ek n a0 a1 z0_tape z0_tokens z0_hillReader z0_lawReader (a2 0) z0_diary (a3 0) z0_draft z0_spareDiary z0_guess z0_past z0_imageHill z0_imageRules z0_imageDiary _ _ _ _ ht1a) (cwV 1 F.1.2.2.2.2 (gV q4_199 q4_201 qs_18 q1_1 q4_202) rfl rfl rfl (by decide +kernel) ⟨Nat.le_of_ble_eq_true rfl, Nat.le_of_ble_eq_true rfl⟩) rfl rfl rfl rfl (by decide) rfl rfl rfl rfl rfl rfl (Nat.le_of_ble_eq_true rfl) ⟨Nat.zero_le _, Nat.zero_le _⟩ dX11_rent_2 ?_
    refine a_iloadn (pc := 5) (j := 2) F dX11_rent_5 rfl rfl ?_
    refine a_iconst (pc := 6) F dX11_rent_6 kc_0 ?_
    refine a_bipush (pc := 7) F dX11_rent_7 kb_100 ?_
    obtain ⟨t2, ht2a, hf⟩ := bd_some hf
    rcases t2 with t2a | t2x
    · replace hf := sm_inl hf
      refine a_callSv (pc := 9) (bs' := [bX11 y a0 z0_tape z0_tokens z0_hillReader z0_lawReader (a1 0) (a2 0) z0_diary (a3 0) z0_draft z0_spareDiary z0_guess z0_past z0_imageHill z0_imageRules z0_imageDiary v0, bX3 y a1 v1, bX5 y a2 v2, bX3 y a3 v3]) F [] (c_X11_checkNumber l D y ek n  _ _ _ _ ht2a) (va_cwS 3 F.1.2.2.2.2 (gS q5_19 q5_20 q1_1 q5_21) rfl rfl rfl (by decide +kernel) ⟨Nat.le_of_ble_eq_true rfl, Nat.le_of_ble_eq_true rfl⟩) (by decide) rfl rfl rfl rfl rfl rfl (Nat.le_of_ble_eq_true rfl) ⟨Nat.zero_le _, Nat.zero_le _⟩ dX11_rent_9 ?_
      refine a_aloadn (pc := 12) (j := 0) F dX11_rent_12 rfl rfl ?_
      refine a_iloadn (pc := 13) (j := 1) F dX11_rent_13 rfl rfl ?_
      refine a_iconst (pc := 14) F dX11_rent_14 kc_2 ?_
      refine a_idiv (pc := 15) F dX11_rent_15 (by decide) ?_
      refine a_iloadn (pc := 16) (j := 2) F dX11_rent_16 rfl rfl ?_
      obtain ⟨t3, ht3, hf⟩ := bd_some hf
      refine a_callVv (pc := 17) (bs' := [bX11 y a0 z0_tape z0_tokens z0_hillReader z0_lawReader (a1 0) (a2 0) z0_diary (a3 0) z0_draft z0_spareDiary z0_guess z0_past z0_imageHill z0_imageRules z0_imageDiary v0, bX3 y a1 v1, bX5 y a2 t3.1, bX3 y a3 t3.2]) (kb := 0) (j := 0) F [0, 1, 2, 3] (c_X11_lookAhead l D y ek n a0 a1 a2 a3 z0_tape z0_tokens z0_hillReader z0_lawReader z0_diary z0_draft z0_spareDiary z0_guess z0_past z0_imageHill z0_imageRules z0_imageDiary _ _ _ _ _ _ _ ht3) (cwV 2 F.1.2.2.2.2 (gV q6_1 q6_3 qs_23 q1_1 q6_4) rfl rfl rfl (by decide +kernel) ⟨Nat.le_of_ble_eq_true rfl, Nat.le_of_ble_eq_true rfl⟩) rfl rfl rfl rfl (by decide) rfl rfl rfl rfl rfl rfl (Nat.le_of_ble_eq_true rfl) ⟨Nat.zero_le _, Nat.zero_le _⟩ dX11_rent_17 ?_
      refine a_aloadn (pc := 20) (j := 0) F dX11_rent_20 rfl rfl ?_
      refine a_get (pc := 21) (kb := 0) (j := 0) (f := 7) F iW_X11 rfl rfl rfl (by decide) (tl q2_63) (fun _ h => h) rfl dX11_rent_21 ?_
      refine a_get (pc := 24) (kb := 1) (j := 0) (f := 13) F iW_X3 rfl rfl rfl (by decide) (tl q1_103) (fun _ h => h) rfl dX11_rent_24 ?_
      refine a_iloadn (pc := 27) (j := 1) F dX11_rent_27 rfl rfl ?_
      obtain ⟨h4, hf⟩ := gd_some hf
      refine a_iald (pc := 28) (kb := 1) (j := 5) F rfl rfl h4 dX11_rent_28 ?_
      refine a_aloadn (pc := 29) (j := 0) F dX11_rent_29 rfl rfl ?_
      refine a_get (pc := 30) (kb := 0) (j := 0) (f := 10) F iW_X11 rfl rfl rfl (by decide) (tl q2_66) (fun _ h => h) rfl dX11_rent_30 ?_
      refine a_get (pc := 33) (kb := 3) (j := 0) (f := 13) F iW_X3 rfl rfl rfl (by decide) (tl q1_103) (fun _ h => h) rfl dX11_rent_33 ?_
      refine a_iloadn (pc := 36) (j := 1) F dX11_rent_36 rfl rfl ?_
      obtain ⟨h5, hf⟩ := gd_some hf
      refine a_iald (pc := 37) (kb := 3) (j := 5) F rfl rfl h5 dX11_rent_37 ?_
      refine a_isub (pc := 38) F dX11_rent_38 ?_
      obtain rfl := Sum.inl.inj (Option.some.inj hf)
      exact hret _ _ _ _ (Nat.zero_le _) (Nat.zero_le _) rfl dX11_rent_39
    · replace hf := sm_inr hf
      exact absurd hf (by simp)
  · replace hf := sm_inr hf
    exact absurd hf (by simp)
set_option maxHeartbeats 4000000 in
set_option maxRecDepth 100000 in
theorem x_X11_rent (l : Launch) (hlt : l.stackTraces = false) (D : va_G) (y : Nat → ClassId) (ek : EK) (n : Nat) (a0 : Nat → Nat) (a1 : Nat → Nat) (a2 : Nat → Nat) (a3 : Nat → Nat) (z0_tape : Nat) (z0_tokens : Nat) (z0_hillReader : Nat) (z0_lawReader : Nat) (z0_diary : Nat) (z0_draft : Nat) (z0_spareDiary : Nat) (z0_guess : Nat) (z0_past : Nat) (z0_imageHill : Nat) (z0_imageRules : Nat) (z0_imageDiary : Nat) (v0 : St) (v1 : St) (v2 : St) (v3 : St) (x1 : Int32) (x2 : Int32) (res : Nat × St × St) (hf : m_X11_rent n v0 v1 v2 v3 x1 x2 = some (Sum.inr res)) : CX l yX11_rent wX11_rent { frames := 7, cells := 1, slots := 6, locals := 166 } D y ek [.ref (a0 0), .int x1, .int x2] [bX11 y a0 z0_tape z0_tokens z0_hillReader z0_lawReader (a1 0) (a2 0) z0_diary (a3 0) z0_draft z0_spareDiary z0_guess z0_past z0_imageHill z0_imageRules z0_imageDiary v0, bX3 y a1 v1, bX5 y a2 v2, bX3 y a3 v3] (eX.getD res.1 "") [bX11 y a0 z0_tape z0_tokens z0_hillReader z0_lawReader (a1 0) (a2 0) z0_diary (a3 0) z0_draft z0_spareDiary z0_guess z0_past z0_imageHill z0_imageRules z0_imageDiary v0, bX3 y a1 v1, bX5 y a2 res.2.1, bX3 y a3 res.2.2] 1 6 := by
  unfold m_X11_rent at hf
  refine cx_of (cc := cX11_rent) (maxL := 3) hlt (by decide) rfl (Nat.le_of_ble_eq_true rfl) (Nat.le_refl 1) (Nat.le_refl 6) ?_
  intro p e s m below meth c Q A F hthr hout
  refine a_lv (lv' := [(0, .ref (a0 0)), (1, .int x1), (2, .int x2)]) rfl ?_
  refine a_aloadn (pc := 0) (j := 0) F dX11_rent_0 rfl rfl ?_
  refine a_iloadn (pc := 1) (j := 1) F dX11_rent_1 rfl rfl ?_
  obtain ⟨t1, ht1a, hf⟩ := bd_some hf
  rcases t1 with t1a | t1x
  · replace hf := sm_inl hf
    refine a_callVv (pc := 2) (bs' := [bX11 y a0 z0_tape z0_tokens z0_hillReader z0_lawReader (a1 0) (a2 0) z0_diary (a3 0) z0_draft z0_spareDiary z0_guess z0_past z0_imageHill z0_imageRules z0_imageDiary v0, bX3 y a1 v1, bX5 y a2 v2, bX3 y a3 v3]) (kb := 0) (j := 0) F [0, 1] (c_X11_checkHouse l D y ek n a0 a1 z0_tape z0_tokens z0_hillReader z0_lawReader (a2 0) z0_diary (a3 0) z0_draft z0_spareDiary z0_guess z0_past z0_imageHill z0_imageRules z0_imageDiary _ _ _ _ ht1a) (cwV 1 F.1.2.2.2.2 (gV q4_199 q4_201 qs_18 q1_1 q4_202) rfl rfl rfl (by decide +kernel) ⟨Nat.le_of_ble_eq_true rfl, Nat.le_of_ble_eq_true rfl⟩) rfl rfl rfl rfl (by decide) rfl rfl rfl rfl rfl rfl (Nat.le_of_ble_eq_true rfl) ⟨Nat.zero_le _, Nat.zero_le _⟩ dX11_rent_2 ?_
    refine a_iloadn (pc := 5) (j := 2) F dX11_rent_5 rfl rfl ?_
    refine a_iconst (pc := 6) F dX11_rent_6 kc_0 ?_
    refine a_bipush (pc := 7) F dX11_rent_7 kb_100 ?_
    obtain ⟨t2, ht2a, hf⟩ := bd_some hf
    rcases t2 with t2a | t2x
    · replace hf := sm_inl hf
      refine a_callSv (pc := 9) (bs' := [bX11 y a0 z0_tape z0_tokens z0_hillReader z0_lawReader (a1 0) (a2 0) z0_diary (a3 0) z0_draft z0_spareDiary z0_guess z0_past z0_imageHill z0_imageRules z0_imageDiary v0, bX3 y a1 v1, bX5 y a2 v2, bX3 y a3 v3]) F [] (c_X11_checkNumber l D y ek n  _ _ _ _ ht2a) (va_cwS 3 F.1.2.2.2.2 (gS q5_19 q5_20 q1_1 q5_21) rfl rfl rfl (by decide +kernel) ⟨Nat.le_of_ble_eq_true rfl, Nat.le_of_ble_eq_true rfl⟩) (by decide) rfl rfl rfl rfl rfl rfl (Nat.le_of_ble_eq_true rfl) ⟨Nat.zero_le _, Nat.zero_le _⟩ dX11_rent_9 ?_
      refine a_aloadn (pc := 12) (j := 0) F dX11_rent_12 rfl rfl ?_
      refine a_iloadn (pc := 13) (j := 1) F dX11_rent_13 rfl rfl ?_
      refine a_iconst (pc := 14) F dX11_rent_14 kc_2 ?_
      refine a_idiv (pc := 15) F dX11_rent_15 (by decide) ?_
      refine a_iloadn (pc := 16) (j := 2) F dX11_rent_16 rfl rfl ?_
      obtain ⟨t3, ht3, hf⟩ := bd_some hf
      refine a_callVv (pc := 17) (bs' := [bX11 y a0 z0_tape z0_tokens z0_hillReader z0_lawReader (a1 0) (a2 0) z0_diary (a3 0) z0_draft z0_spareDiary z0_guess z0_past z0_imageHill z0_imageRules z0_imageDiary v0, bX3 y a1 v1, bX5 y a2 t3.1, bX3 y a3 t3.2]) (kb := 0) (j := 0) F [0, 1, 2, 3] (c_X11_lookAhead l D y ek n a0 a1 a2 a3 z0_tape z0_tokens z0_hillReader z0_lawReader z0_diary z0_draft z0_spareDiary z0_guess z0_past z0_imageHill z0_imageRules z0_imageDiary _ _ _ _ _ _ _ ht3) (cwV 2 F.1.2.2.2.2 (gV q6_1 q6_3 qs_23 q1_1 q6_4) rfl rfl rfl (by decide +kernel) ⟨Nat.le_of_ble_eq_true rfl, Nat.le_of_ble_eq_true rfl⟩) rfl rfl rfl rfl (by decide) rfl rfl rfl rfl rfl rfl (Nat.le_of_ble_eq_true rfl) ⟨Nat.zero_le _, Nat.zero_le _⟩ dX11_rent_17 ?_
      refine a_aloadn (pc := 20) (j := 0) F dX11_rent_20 rfl rfl ?_
      refine a_get (pc := 21) (kb := 0) (j := 0) (f := 7) F iW_X11 rfl rfl rfl (by decide) (tl q2_63) (fun _ h => h) rfl dX11_rent_21 ?_
      refine a_get (pc := 24) (kb := 1) (j := 0) (f := 13) F iW_X3 rfl rfl rfl (by decide) (tl q1_103) (fun _ h => h) rfl dX11_rent_24 ?_
      refine a_iloadn (pc := 27) (j := 1) F dX11_rent_27 rfl rfl ?_
      obtain ⟨h4, hf⟩ := gd_some hf
      refine a_iald (pc := 28) (kb := 1) (j := 5) F rfl rfl h4 dX11_rent_28 ?_
      refine a_aloadn (pc := 29) (j := 0) F dX11_rent_29 rfl rfl ?_
      refine a_get (pc := 30) (kb := 0) (j := 0) (f := 10) F iW_X11 rfl rfl rfl (by decide) (tl q2_66) (fun _ h => h) rfl dX11_rent_30 ?_
      refine a_get (pc := 33) (kb := 3) (j := 0) (f := 13) F iW_X3 rfl rfl rfl (by decide) (tl q1_103) (fun _ h => h) rfl dX11_rent_33 ?_
      refine a_iloadn (pc := 36) (j := 1) F dX11_rent_36 rfl rfl ?_
      obtain ⟨h5, hf⟩ := gd_some hf
      refine a_iald (pc := 37) (kb := 3) (j := 5) F rfl rfl h5 dX11_rent_37 ?_
      refine a_isub (pc := 38) F dX11_rent_38 ?_
      exact absurd hf (by simp)
    · replace hf := sm_inr hf
      obtain rfl := Sum.inr.inj (Option.some.inj hf)
      exact a_callSx (pc := 9) (bs' := [bX11 y a0 z0_tape z0_tokens z0_hillReader z0_lawReader (a1 0) (a2 0) z0_diary (a3 0) z0_draft z0_spareDiary z0_guess z0_past z0_imageHill z0_imageRules z0_imageDiary v0, bX3 y a1 v1, bX5 y a2 v2, bX3 y a3 v3]) F [] (x_X11_checkNumber l hlt D y ek n  _ _ _ _ ht2a) (va_cwS 3 F.1.2.2.2.2 (gS q5_19 q5_20 q1_1 q5_21) rfl rfl rfl (by decide +kernel) ⟨Nat.le_of_ble_eq_true rfl, Nat.le_of_ble_eq_true rfl⟩) (by decide) rfl rfl rfl rfl rfl rfl (Nat.le_of_ble_eq_true rfl) ⟨Nat.le_of_ble_eq_true rfl, Nat.le_of_ble_eq_true rfl⟩ dX11_rent_9 (fun H1 locs1 ls q9 ce h1 h2 h3 h4 h5 h6 h7 => hout H1 locs1 ls _ _ _ _ q9 ce h1 h2 h3 (Nat.le_of_ble_eq_true rfl) (Nat.le_of_ble_eq_true rfl) h5 h6 h7)
  · replace hf := sm_inr hf
    obtain rfl := Sum.inr.inj (Option.some.inj hf)
    exact a_callVx (pc := 2) (bs' := [bX11 y a0 z0_tape z0_tokens z0_hillReader z0_lawReader (a1 0) (a2 0) z0_diary (a3 0) z0_draft z0_spareDiary z0_guess z0_past z0_imageHill z0_imageRules z0_imageDiary v0, bX3 y a1 v1, bX5 y a2 v2, bX3 y a3 v3]) (kb := 0) (j := 0) F [0, 1] (x_X11_checkHouse l hlt D y ek n a0 a1 z0_tape z0_tokens z0_hillReader z0_lawReader (a2 0) z0_diary (a3 0) z0_draft z0_spareDiary z0_guess z0_past z0_imageHill z0_imageRules z0_imageDiary _ _ _ _ ht1a) (cwV 1 F.1.2.2.2.2 (gV q4_199 q4_201 qs_18 q1_1 q4_202) rfl rfl rfl (by decide +kernel) ⟨Nat.le_of_ble_eq_true rfl, Nat.le_of_ble_eq_true rfl⟩) rfl rfl rfl rfl (by decide) rfl rfl rfl rfl rfl rfl (Nat.le_of_ble_eq_true rfl) ⟨Nat.le_of_ble_eq_true rfl, Nat.le_of_ble_eq_true rfl⟩ dX11_rent_2 (fun H1 locs1 ls q9 ce h1 h2 h3 h4 h5 h6 h7 => hout H1 locs1 ls _ _ _ _ q9 ce h1 h2 h3 (Nat.le_of_ble_eq_true rfl) (Nat.le_of_ble_eq_true rfl) h5 h6 h7)

abbrev wX11_poor : List Cond := Cond.code yX11_poor cX11_poor 3 (some .int) :: WALL
def m_X11_poor (n : Nat) (v0 : St) (v1 : St) (v2 : St) (v3 : St) : Option (Int32 × St × St) :=
bd (m_X3_copyFrom n v3 v1) (fun t1 =>
lp (fun (rc2 : Int32 × St × St → Option (Int32 × St × St)) (x2l : Int32 × St × St) =>
(if 100 < x2l.1 then
some ((-1), x2l.2.1, x2l.2.2)
else
bd (m_X3_hasEmptyPurse n x2l.2.2) (fun t3 =>
(if t3 = 0 then
bd (lp (fun (rc6 : Int32 × St × St → Option (St × St)) (x6l : Int32 × St × St) =>
(if (x6l.2.2 0 0) ≤ x6l.1 then
some (x6l.2.1, x6l.2.2)
else
bd (m_X3_payAndGrowOld n x6l.2.2 x6l.2.1 x6l.1) (fun t7 =>
rc6 ((x6l.1 + 1), t7.2, t7.1)))) n (0, x2l.2.1, x2l.2.2)) (fun (t4 : St × St) =>
bd (m_X3_turnWeek n t4.2) (fun t5 =>
rc2 ((x2l.1 + 1), t4.1, t5)))
else
some (x2l.1, x2l.2.1, x2l.2.2))))) n (0, v2, t1))
set_option maxHeartbeats 4000000 in
set_option maxRecDepth 100000 in
theorem c_X11_poor (l : Launch) (D : va_G) (y : Nat → ClassId) (ek : EK) (n : Nat) (a0 : Nat → Nat) (a1 : Nat → Nat) (a2 : Nat → Nat) (a3 : Nat → Nat) (z0_tape : Nat) (z0_tokens : Nat) (z0_hillReader : Nat) (z0_lawReader : Nat) (z0_diary : Nat) (z0_draft : Nat) (z0_spareDiary : Nat) (z0_guess : Nat) (z0_past : Nat) (z0_imageHill : Nat) (z0_imageRules : Nat) (z0_imageDiary : Nat) (v0 : St) (v1 : St) (v2 : St) (v3 : St) (res : Int32 × St × St) (hf : m_X11_poor n v0 v1 v2 v3 = some res) : CI l yX11_poor wX11_poor { frames := 6, cells := 0, slots := 0, locals := 143 } D y ek [.ref (a0 0)] [bX11 y a0 z0_tape z0_tokens z0_hillReader z0_lawReader (a1 0) (a2 0) z0_diary (a3 0) z0_draft z0_spareDiary z0_guess z0_past z0_imageHill z0_imageRules z0_imageDiary v0, bX3 y a1 v1, bX5 y a2 v2, bX3 y a3 v3] (res.1) [bX11 y a0 z0_tape z0_tokens z0_hillReader z0_lawReader (a1 0) (a2 0) z0_diary (a3 0) z0_draft z0_spareDiary z0_guess z0_past z0_imageHill z0_imageRules z0_imageDiary v0, bX3 y a1 v1, bX5 y a2 res.2.1, bX3 y a3 res.2.2] 0 0 := by
  unfold m_X11_poor at hf
  refine ci_of (cc := cX11_poor) (maxL := 3) (by decide) rfl rfl (Nat.le_of_ble_eq_true rfl) ?_
  intro p e s m below meth c Q A F hret
  refine a_lv (lv' := [(0, .ref (a0 0))]) rfl ?_
  refine a_aloadn (pc := 0) (j := 0) F dX11_poor_0 rfl rfl ?_
  refine a_get (pc := 1) (kb := 0) (j := 0) (f := 10) F iW_X11 rfl rfl rfl (by decide) (tl q2_66) (fun _ h => h) rfl dX11_poor_1 ?_
  refine a_aloadn (pc := 4) (j := 0) F dX11_poor_4 rfl rfl ?_
  refine a_get (pc := 5) (kb := 0) (j := 0) (f := 7) F iW_X11 rfl rfl rfl (by decide) (tl q2_63) (fun _ h => h) rfl dX11_poor_5 ?_
  obtain ⟨t1, ht1, hf⟩ := bd_some hf
  refine a_callVv (pc := 8) (bs' := [bX11 y a0 z0_tape z0_tokens z0_hillReader z0_lawReader (a1 0) (a2 0) z0_diary (a3 0) z0_draft z0_spareDiary z0_guess z0_past z0_imageHill z0_imageRules z0_imageDiary v0, bX3 y a1 v1, bX5 y a2 v2, bX3 y a3 t1]) (kb := 3) (j := 0) F [3, 1] (c_X3_copyFrom l D y ek n a3 a1 _ _ _ ht1) (cwV 1 F.1.2.2.2.2 (gV q2_197 q2_142 q2_143 q1_3 q2_144) rfl rfl rfl (by decide +kernel) ⟨Nat.le_of_ble_eq_true rfl, Nat.le_of_ble_eq_true rfl⟩) rfl rfl rfl rfl (by decide) rfl rfl rfl rfl rfl rfl (Nat.le_of_ble_eq_true rfl) ⟨Nat.zero_le _, Nat.zero_le _⟩ dX11_poor_8 ?_
  refine a_iconst (pc := 11) F dX11_poor_11 kc_0 ?_
  refine a_istoren (pc := 12) (lv' := [(0, .ref (a0 0)), (1, .int 0)]) F [1, 0] dX11_poor_12 rfl (by decide) rfl ?_
  refine a_loop 13 (fun (x2l : Int32 × St × St) => [(0, .ref (a0 0)), (1, .int x2l.1)]) (fun (x2l : Int32 × St × St) => [bX11 y a0 z0_tape z0_tokens z0_hillReader z0_lawReader (a1 0) (a2 0) z0_diary (a3 0) z0_draft z0_spareDiary z0_guess z0_past z0_imageHill z0_imageRules z0_imageDiary v0, bX3 y a1 v1, bX5 y a2 x2l.2.1, bX3 y a3 x2l.2.2]) (fun rc2 x2l ih2 hf => ?_) hf rfl rfl
  try dsimp only at hf ⊢
  refine a_iloadn (pc := 13) (j := 1) F dX11_poor_13 rfl rfl ?_
  refine a_bipush (pc := 14) F dX11_poor_14 kb_100 ?_
  refine a_icmp_gt (pc := 16) (tgt := 75) F dX11_poor_16 (by decide) (fun h => ?_) (fun h => ?_)
  · replace hf := it_pos h hf
    refine a_iconst (pc := 75) F dX11_poor_75 kc_m1 ?_
    obtain rfl := Option.some.inj hf
    exact hret _ _ _ _ (Nat.zero_le _) (Nat.zero_le _) rfl dX11_poor_76
  · replace hf := it_neg h hf
    refine a_aloadn (pc := 19) (j := 0) F dX11_poor_19 rfl rfl ?_
    refine a_get (pc := 20) (kb := 0) (j := 0) (f := 10) F iW_X11 rfl rfl rfl (by decide) (tl q2_66) (fun _ h => h) rfl dX11_poor_20 ?_
    obtain ⟨t3, ht3, hf⟩ := bd_some hf
    refine a_callV (pc := 23) (bs' := [bX11 y a0 z0_tape z0_tokens z0_hillReader z0_lawReader (a1 0) (a2 0) z0_diary (a3 0) z0_draft z0_spareDiary z0_guess z0_past z0_imageHill z0_imageRules z0_imageDiary v0, bX3 y a1 v1, bX5 y a2 x2l.2.1, bX3 y a3 x2l.2.2]) (kb := 3) (j := 0) F [3] (c_X3_hasEmptyPurse l D y ek n a3 _ _ ht3) (cwV 0 F.1.2.2.2.2 (gV q3_13 q3_14 q3_15 q1_3 q3_16) rfl rfl rfl (by decide +kernel) ⟨Nat.le_of_ble_eq_true rfl, Nat.le_of_ble_eq_true rfl⟩) rfl rfl rfl rfl (by decide) rfl rfl rfl rfl rfl rfl (Nat.le_of_ble_eq_true rfl) ⟨Nat.zero_le _, Nat.zero_le _⟩ dX11_poor_23 ?_
    refine a_if_eq (pc := 26) (tgt := 31) F dX11_poor_26 (by decide) (fun h => ?_) (fun h => ?_)
    · replace hf := it_pos h hf
      refine a_iconst (pc := 31) F dX11_poor_31 kc_0 ?_
      refine a_istoren (pc := 32) (lv' := [(0, .ref (a0 0)), (1, .int x2l.1), (2, .int 0)]) F [1, 2, 0] dX11_poor_32 rfl (by decide) rfl ?_
      refine a_join 62 (fun (t4 : St × St) => [(0, .ref (a0 0)), (1, .int x2l.1)]) (fun (t4 : St × St) => []) (fun (t4 : St × St) => [bX11 y a0 z0_tape z0_tokens z0_hillReader z0_lawReader (a1 0) (a2 0) z0_diary (a3 0) z0_draft z0_spareDiary z0_guess z0_past z0_imageHill z0_imageRules z0_imageDiary v0, bX3 y a1 v1, bX5 y a2 t4.1, bX3 y a3 t4.2]) hf (fun t4 hf => ?_) (fun t4 hf J4 => ?_)
      · try dsimp only at hf ⊢
        refine a_aloadn (pc := 62) (j := 0) F dX11_poor_62 rfl rfl ?_
        refine a_get (pc := 63) (kb := 0) (j := 0) (f := 10) F iW_X11 rfl rfl rfl (by decide) (tl q2_66) (fun _ h => h) rfl dX11_poor_63 ?_
        obtain ⟨t5, ht5, hf⟩ := bd_some hf
        refine a_callVv (pc := 66) (bs' := [bX11 y a0 z0_tape z0_tokens z0_hillReader z0_lawReader (a1 0) (a2 0) z0_diary (a3 0) z0_draft z0_spareDiary z0_guess z0_past z0_imageHill z0_imageRules z0_imageDiary v0, bX3 y a1 v1, bX5 y a2 t4.1, bX3 y a3 t5]) (kb := 3) (j := 0) F [3] (c_X3_turnWeek l D y ek n a3 _ _ ht5) (cwV 0 F.1.2.2.2.2 (gV q2_228 q2_229 q2_230 q1_3 q2_231) rfl rfl rfl (by decide +kernel) ⟨Nat.le_of_ble_eq_true rfl, Nat.le_of_ble_eq_true rfl⟩) rfl rfl rfl rfl (by decide) rfl rfl rfl rfl rfl rfl (Nat.le_of_ble_eq_true rfl) ⟨Nat.zero_le _, Nat.zero_le _⟩ dX11_poor_66 ?_
        refine a_iinc (pc := 69) (j := 1) (v := (x2l.1 + 1)) (lv' := [(0, .ref (a0 0)), (1, .int (x2l.1 + 1))]) F [1, 0] dX11_poor_69 rfl ki_1 (by decide) rfl ?_
        refine a_goto (pc := 72) (tgt := 13) F dX11_poor_72 (by decide) ?_
        exact ih2 ((x2l.1 + 1), t4.1, t5) hf
      · refine a_loop 33 (fun (x6l : Int32 × St × St) => [(0, .ref (a0 0)), (1, .int x2l.1), (2, .int x6l.1)]) (fun (x6l : Int32 × St × St) => [bX11 y a0 z0_tape z0_tokens z0_hillReader z0_lawReader (a1 0) (a2 0) z0_diary (a3 0) z0_draft z0_spareDiary z0_guess z0_past z0_imageHill z0_imageRules z0_imageDiary v0, bX3 y a1 v1, bX5 y a2 x6l.2.1, bX3 y a3 x6l.2.2]) (fun rc6 x6l ih6 hf => ?_) hf rfl rfl
        try dsimp only at hf ⊢
        refine a_iloadn (pc := 33) (j := 2) F dX11_poor_33 rfl rfl ?_
        refine a_aloadn (pc := 34) (j := 0) F dX11_poor_34 rfl rfl ?_
        refine a_get (pc := 35) (kb := 0) (j := 0) (f := 10) F iW_X11 rfl rfl rfl (by decide) (tl q2_66) (fun _ h => h) rfl dX11_poor_35 ?_
        refine a_get (pc := 38) (kb := 3) (j := 0) (f := 0) F iW_X3 rfl rfl rfl (by decide) (tl q1_68) (fun _ h => h) rfl dX11_poor_38 ?_
        refine a_icmp_ge (pc := 41) (tgt := 62) F dX11_poor_41 (by decide) (fun h => ?_) (fun h => ?_)
        · replace hf := it_pos h hf
          refine a_sub [0, 1] rfl ?_
          obtain rfl := Option.some.inj hf
          exact J4
        · replace hf := it_neg h hf
          refine a_aloadn (pc := 44) (j := 0) F dX11_poor_44 rfl rfl ?_
          refine a_get (pc := 45) (kb := 0) (j := 0) (f := 10) F iW_X11 rfl rfl rfl (by decide) (tl q2_66) (fun _ h => h) rfl dX11_poor_45 ?_
          refine a_aloadn (pc := 48) (j := 0) F dX11_poor_48 rfl rfl ?_
          refine a_get (pc := 49) (kb := 0) (j := 0) (f := 8) F iW_X11 rfl rfl rfl (by decide) (tl q2_64) (fun _ h => h) rfl dX11_poor_49 ?_
          refine a_iloadn (pc := 52) (j := 2) F dX11_poor_52 rfl rfl ?_
          obtain ⟨t7, ht7, hf⟩ := bd_some hf
          refine a_callVv (pc := 53) (bs' := [bX11 y a0 z0_tape z0_tokens z0_hillReader z0_lawReader (a1 0) (a2 0) z0_diary (a3 0) z0_draft z0_spareDiary z0_guess z0_past z0_imageHill z0_imageRules z0_imageDiary v0, bX3 y a1 v1, bX5 y a2 t7.2, bX3 y a3 t7.1]) (kb := 3) (j := 0) F [3, 2] (c_X3_payAndGrowOld l D y ek n a3 a2 _ _ _ _ ht7) (cwV 2 F.1.2.2.2.2 (gV q3_17 q3_18 q3_19 q1_3 q3_20) rfl rfl rfl (by decide +kernel) ⟨Nat.le_of_ble_eq_true rfl, Nat.le_of_ble_eq_true rfl⟩) rfl rfl rfl rfl (by decide) rfl rfl rfl rfl rfl rfl (Nat.le_of_ble_eq_true rfl) ⟨Nat.zero_le _, Nat.zero_le _⟩ dX11_poor_53 ?_
          refine a_iinc (pc := 56) (j := 2) (v := (x6l.1 + 1)) (lv' := [(0, .ref (a0 0)), (1, .int x2l.1), (2, .int (x6l.1 + 1))]) F [1, 2, 0] dX11_poor_56 rfl ki_1 (by decide) rfl ?_
          refine a_goto (pc := 59) (tgt := 33) F dX11_poor_59 (by decide) ?_
          exact ih6 ((x6l.1 + 1), t7.2, t7.1) hf
    · replace hf := it_neg h hf
      refine a_iloadn (pc := 29) (j := 1) F dX11_poor_29 rfl rfl ?_
      obtain rfl := Option.some.inj hf
      exact hret _ _ _ _ (Nat.zero_le _) (Nat.zero_le _) rfl dX11_poor_30

abbrev wX11_ahead : List Cond := Cond.code yX11_ahead cX11_ahead 4 (some .int) :: WALL
def m_X11_ahead (n : Nat) (v0 : St) (v1 : St) (v2 : St) (v3 : St) (x1 : Int32) (x2 : Int32) (x3 : Int32) : Option ((Int32 × St × St) ⊕ (Nat × St × St)) :=
bd (m_X11_checkHouse n v0 v1 x1) (fun t1 => sm t1 (fun t1a =>
bd (m_X11_checkNumber n x2 0 100) (fun t2 => sm t2 (fun t2a =>
bd (m_X11_lookAhead n v0 v1 v2 v3 (x1 / 2) x2) (fun t3 =>
(if x3 = 0 then
(if ix x1 10 then some (Sum.inl ((t3.2 19 (x1).toNatClampNeg), t3.1, t3.2)) else none)
else
(if ix x1 10 then some (Sum.inl ((t3.2 13 (x1).toNatClampNeg), t3.1, t3.2)) else none)))) (fun t2x => some (Sum.inr (t2x, v2, v3))))) (fun t1x => some (Sum.inr (t1x, v2, v3))))
set_option maxHeartbeats 4000000 in
set_option maxRecDepth 100000 in
theorem c_X11_ahead (l : Launch) (D : va_G) (y : Nat → ClassId) (ek : EK) (n : Nat) (a0 : Nat → Nat) (a1 : Nat → Nat) (a2 : Nat → Nat) (a3 : Nat → Nat) (z0_tape : Nat) (z0_tokens : Nat) (z0_hillReader : Nat) (z0_lawReader : Nat) (z0_diary : Nat) (z0_draft : Nat) (z0_spareDiary : Nat) (z0_guess : Nat) (z0_past : Nat) (z0_imageHill : Nat) (z0_imageRules : Nat) (z0_imageDiary : Nat) (v0 : St) (v1 : St) (v2 : St) (v3 : St) (x1 : Int32) (x2 : Int32) (x3 : Int32) (res : Int32 × St × St) (hf : m_X11_ahead n v0 v1 v2 v3 x1 x2 x3 = some (Sum.inl res)) : CI l yX11_ahead wX11_ahead { frames := 7, cells := 0, slots := 0, locals := 166 } D y ek [.ref (a0 0), .int x1, .int x2, .int x3] [bX11 y a0 z0_tape z0_tokens z0_hillReader z0_lawReader (a1 0) (a2 0) z0_diary (a3 0) z0_draft z0_spareDiary z0_guess z0_past z0_imageHill z0_imageRules z0_imageDiary v0, bX3 y a1 v1, bX5 y a2 v2, bX3 y a3 v3] (res.1) [bX11 y a0 z0_tape z0_tokens z0_hillReader z0_lawReader (a1 0) (a2 0) z0_diary (a3 0) z0_draft z0_spareDiary z0_guess z0_past z0_imageHill z0_imageRules z0_imageDiary v0, bX3 y a1 v1, bX5 y a2 res.2.1, bX3 y a3 res.2.2] 0 0 := by
  unfold m_X11_ahead at hf
  refine ci_of (cc := cX11_ahead) (maxL := 4) (by decide) rfl rfl (Nat.le_of_ble_eq_true rfl) ?_
  intro p e s m below meth c Q A F hret
  refine a_lv (lv' := [(0, .ref (a0 0)), (1, .int x1), (2, .int x2), (3, .int x3)]) rfl ?_
  refine a_aloadn (pc := 0) (j := 0) F dX11_ahead_0 rfl rfl ?_
  refine a_iloadn (pc := 1) (j := 1) F dX11_ahead_1 rfl rfl ?_
  obtain ⟨t1, ht1a, hf⟩ := bd_some hf
  rcases t1 with t1a | t1x
  · replace hf := sm_inl hf
    refine a_callVv (pc := 2) (bs' := [bX11 y a0 z0_tape z0_tokens z0_hillReader z0_lawReader (a1 0) (a2 0) z0_diary (a3 0) z0_draft z0_spareDiary z0_guess z0_past z0_imageHill z0_imageRules z0_imageDiary v0, bX3 y a1 v1, bX5 y a2 v2, bX3 y a3 v3]) (kb := 0) (j := 0) F [0, 1] (c_X11_checkHouse l D y ek n a0 a1 z0_tape z0_tokens z0_hillReader z0_lawReader (a2 0) z0_diary (a3 0) z0_draft z0_spareDiary z0_guess z0_past z0_imageHill z0_imageRules z0_imageDiary _ _ _ _ ht1a) (cwV 1 F.1.2.2.2.2 (gV q4_199 q4_201 qs_18 q1_1 q4_202) rfl rfl rfl (by decide +kernel) ⟨Nat.le_of_ble_eq_true rfl, Nat.le_of_ble_eq_true rfl⟩) rfl rfl rfl rfl (by decide) rfl rfl rfl rfl rfl rfl (Nat.le_of_ble_eq_true rfl) ⟨Nat.zero_le _, Nat.zero_le _⟩ dX11_ahead_2 ?_
    refine a_iloadn (pc := 5) (j := 2) F dX11_ahead_5 rfl rfl ?_
    refine a_iconst (pc := 6) F dX11_ahead_6 kc_0 ?_
    refine a_bipush (pc := 7) F dX11_ahead_7 kb_100 ?_
    obtain ⟨t2, ht2a, hf⟩ := bd_some hf
    rcases t2 with t2a | t2x
    · replace hf := sm_inl hf
      refine a_callSv (pc := 9) (bs' := [bX11 y a0 z0_tape z0_tokens z0_hillReader z0_lawReader (a1 0) (a2 0) z0_diary (a3 0) z0_draft z0_spareDiary z0_guess z0_past z0_imageHill z0_imageRules z0_imageDiary v0, bX3 y a1 v1, bX5 y a2 v2, bX3 y a3 v3]) F [] (c_X11_checkNumber l D y ek n  _ _ _ _ ht2a) (va_cwS 3 F.1.2.2.2.2 (gS q5_19 q5_20 q1_1 q5_21) rfl rfl rfl (by decide +kernel) ⟨Nat.le_of_ble_eq_true rfl, Nat.le_of_ble_eq_true rfl⟩) (by decide) rfl rfl rfl rfl rfl rfl (Nat.le_of_ble_eq_true rfl) ⟨Nat.zero_le _, Nat.zero_le _⟩ dX11_ahead_9 ?_
      refine a_aloadn (pc := 12) (j := 0) F dX11_ahead_12 rfl rfl ?_
      refine a_iloadn (pc := 13) (j := 1) F dX11_ahead_13 rfl rfl ?_
      refine a_iconst (pc := 14) F dX11_ahead_14 kc_2 ?_
      refine a_idiv (pc := 15) F dX11_ahead_15 (by decide) ?_
      refine a_iloadn (pc := 16) (j := 2) F dX11_ahead_16 rfl rfl ?_
      obtain ⟨t3, ht3, hf⟩ := bd_some hf
      refine a_callVv (pc := 17) (bs' := [bX11 y a0 z0_tape z0_tokens z0_hillReader z0_lawReader (a1 0) (a2 0) z0_diary (a3 0) z0_draft z0_spareDiary z0_guess z0_past z0_imageHill z0_imageRules z0_imageDiary v0, bX3 y a1 v1, bX5 y a2 t3.1, bX3 y a3 t3.2]) (kb := 0) (j := 0) F [0, 1, 2, 3] (c_X11_lookAhead l D y ek n a0 a1 a2 a3 z0_tape z0_tokens z0_hillReader z0_lawReader z0_diary z0_draft z0_spareDiary z0_guess z0_past z0_imageHill z0_imageRules z0_imageDiary _ _ _ _ _ _ _ ht3) (cwV 2 F.1.2.2.2.2 (gV q6_1 q6_3 qs_23 q1_1 q6_4) rfl rfl rfl (by decide +kernel) ⟨Nat.le_of_ble_eq_true rfl, Nat.le_of_ble_eq_true rfl⟩) rfl rfl rfl rfl (by decide) rfl rfl rfl rfl rfl rfl (Nat.le_of_ble_eq_true rfl) ⟨Nat.zero_le _, Nat.zero_le _⟩ dX11_ahead_17 ?_
      refine a_iloadn (pc := 20) (j := 3) F dX11_ahead_20 rfl rfl ?_
      refine a_if_eq (pc := 21) (tgt := 36) F dX11_ahead_21 (by decide) (fun h => ?_) (fun h => ?_)
      · replace hf := it_pos h hf
        refine a_aloadn (pc := 36) (j := 0) F dX11_ahead_36 rfl rfl ?_
        refine a_get (pc := 37) (kb := 0) (j := 0) (f := 10) F iW_X11 rfl rfl rfl (by decide) (tl q2_66) (fun _ h => h) rfl dX11_ahead_37 ?_
        refine a_get (pc := 40) (kb := 3) (j := 0) (f := 19) F iW_X3 rfl rfl rfl (by decide) (tl q1_120) (fun _ h => h) rfl dX11_ahead_40 ?_
        refine a_iloadn (pc := 43) (j := 1) F dX11_ahead_43 rfl rfl ?_
        obtain ⟨h4, hf⟩ := gd_some hf
        refine a_iald (pc := 44) (kb := 3) (j := 11) F rfl rfl h4 dX11_ahead_44 ?_
        obtain rfl := Sum.inl.inj (Option.some.inj hf)
        exact hret _ _ _ _ (Nat.zero_le _) (Nat.zero_le _) rfl dX11_ahead_45
      · replace hf := it_neg h hf
        refine a_aloadn (pc := 24) (j := 0) F dX11_ahead_24 rfl rfl ?_
        refine a_get (pc := 25) (kb := 0) (j := 0) (f := 10) F iW_X11 rfl rfl rfl (by decide) (tl q2_66) (fun _ h => h) rfl dX11_ahead_25 ?_
        refine a_get (pc := 28) (kb := 3) (j := 0) (f := 13) F iW_X3 rfl rfl rfl (by decide) (tl q1_103) (fun _ h => h) rfl dX11_ahead_28 ?_
        refine a_iloadn (pc := 31) (j := 1) F dX11_ahead_31 rfl rfl ?_
        obtain ⟨h5, hf⟩ := gd_some hf
        refine a_iald (pc := 32) (kb := 3) (j := 5) F rfl rfl h5 dX11_ahead_32 ?_
        refine a_goto (pc := 33) (tgt := 45) F dX11_ahead_33 (by decide) ?_
        obtain rfl := Sum.inl.inj (Option.some.inj hf)
        exact hret _ _ _ _ (Nat.zero_le _) (Nat.zero_le _) rfl dX11_ahead_45
    · replace hf := sm_inr hf
      exact absurd hf (by simp)
  · replace hf := sm_inr hf
    exact absurd hf (by simp)
set_option maxHeartbeats 4000000 in
set_option maxRecDepth 100000 in
theorem x_X11_ahead (l : Launch) (hlt : l.stackTraces = false) (D : va_G) (y : Nat → ClassId) (ek : EK) (n : Nat) (a0 : Nat → Nat) (a1 : Nat → Nat) (a2 : Nat → Nat) (a3 : Nat → Nat) (z0_tape : Nat) (z0_tokens : Nat) (z0_hillReader : Nat) (z0_lawReader : Nat) (z0_diary : Nat) (z0_draft : Nat) (z0_spareDiary : Nat) (z0_guess : Nat) (z0_past : Nat) (z0_imageHill : Nat) (z0_imageRules : Nat) (z0_imageDiary : Nat) (v0 : St) (v1 : St) (v2 : St) (v3 : St) (x1 : Int32) (x2 : Int32) (x3 : Int32) (res : Nat × St × St) (hf : m_X11_ahead n v0 v1 v2 v3 x1 x2 x3 = some (Sum.inr res)) : CX l yX11_ahead wX11_ahead { frames := 7, cells := 1, slots := 6, locals := 166 } D y ek [.ref (a0 0), .int x1, .int x2, .int x3] [bX11 y a0 z0_tape z0_tokens z0_hillReader z0_lawReader (a1 0) (a2 0) z0_diary (a3 0) z0_draft z0_spareDiary z0_guess z0_past z0_imageHill z0_imageRules z0_imageDiary v0, bX3 y a1 v1, bX5 y a2 v2, bX3 y a3 v3] (eX.getD res.1 "") [bX11 y a0 z0_tape z0_tokens z0_hillReader z0_lawReader (a1 0) (a2 0) z0_diary (a3 0) z0_draft z0_spareDiary z0_guess z0_past z0_imageHill z0_imageRules z0_imageDiary v0, bX3 y a1 v1, bX5 y a2 res.2.1, bX3 y a3 res.2.2] 1 6 := by
  unfold m_X11_ahead at hf
  refine cx_of (cc := cX11_ahead) (maxL := 4) hlt (by decide) rfl (Nat.le_of_ble_eq_true rfl) (Nat.le_refl 1) (Nat.le_refl 6) ?_
  intro p e s m below meth c Q A F hthr hout
  refine a_lv (lv' := [(0, .ref (a0 0)), (1, .int x1), (2, .int x2), (3, .int x3)]) rfl ?_
  refine a_aloadn (pc := 0) (j := 0) F dX11_ahead_0 rfl rfl ?_
  refine a_iloadn (pc := 1) (j := 1) F dX11_ahead_1 rfl rfl ?_
  obtain ⟨t1, ht1a, hf⟩ := bd_some hf
  rcases t1 with t1a | t1x
  · replace hf := sm_inl hf
    refine a_callVv (pc := 2) (bs' := [bX11 y a0 z0_tape z0_tokens z0_hillReader z0_lawReader (a1 0) (a2 0) z0_diary (a3 0) z0_draft z0_spareDiary z0_guess z0_past z0_imageHill z0_imageRules z0_imageDiary v0, bX3 y a1 v1, bX5 y a2 v2, bX3 y a3 v3]) (kb := 0) (j := 0) F [0, 1] (c_X11_checkHouse l D y ek n a0 a1 z0_tape z0_tokens z0_hillReader z0_lawReader (a2 0) z0_diary (a3 0) z0_draft z0_spareDiary z0_guess z0_past z0_imageHill z0_imageRules z0_imageDiary _ _ _ _ ht1a) (cwV 1 F.1.2.2.2.2 (gV q4_199 q4_201 qs_18 q1_1 q4_202) rfl rfl rfl (by decide +kernel) ⟨Nat.le_of_ble_eq_true rfl, Nat.le_of_ble_eq_true rfl⟩) rfl rfl rfl rfl (by decide) rfl rfl rfl rfl rfl rfl (Nat.le_of_ble_eq_true rfl) ⟨Nat.zero_le _, Nat.zero_le _⟩ dX11_ahead_2 ?_
    refine a_iloadn (pc := 5) (j := 2) F dX11_ahead_5 rfl rfl ?_
    refine a_iconst (pc := 6) F dX11_ahead_6 kc_0 ?_
    refine a_bipush (pc := 7) F dX11_ahead_7 kb_100 ?_
    obtain ⟨t2, ht2a, hf⟩ := bd_some hf
    rcases t2 with t2a | t2x
    · replace hf := sm_inl hf
      refine a_callSv (pc := 9) (bs' := [bX11 y a0 z0_tape z0_tokens z0_hillReader z0_lawReader (a1 0) (a2 0) z0_diary (a3 0) z0_draft z0_spareDiary z0_guess z0_past z0_imageHill z0_imageRules z0_imageDiary v0, bX3 y a1 v1, bX5 y a2 v2, bX3 y a3 v3]) F [] (c_X11_checkNumber l D y ek n  _ _ _ _ ht2a) (va_cwS 3 F.1.2.2.2.2 (gS q5_19 q5_20 q1_1 q5_21) rfl rfl rfl (by decide +kernel) ⟨Nat.le_of_ble_eq_true rfl, Nat.le_of_ble_eq_true rfl⟩) (by decide) rfl rfl rfl rfl rfl rfl (Nat.le_of_ble_eq_true rfl) ⟨Nat.zero_le _, Nat.zero_le _⟩ dX11_ahead_9 ?_
      refine a_aloadn (pc := 12) (j := 0) F dX11_ahead_12 rfl rfl ?_
      refine a_iloadn (pc := 13) (j := 1) F dX11_ahead_13 rfl rfl ?_
      refine a_iconst (pc := 14) F dX11_ahead_14 kc_2 ?_
      refine a_idiv (pc := 15) F dX11_ahead_15 (by decide) ?_
      refine a_iloadn (pc := 16) (j := 2) F dX11_ahead_16 rfl rfl ?_
      obtain ⟨t3, ht3, hf⟩ := bd_some hf
      refine a_callVv (pc := 17) (bs' := [bX11 y a0 z0_tape z0_tokens z0_hillReader z0_lawReader (a1 0) (a2 0) z0_diary (a3 0) z0_draft z0_spareDiary z0_guess z0_past z0_imageHill z0_imageRules z0_imageDiary v0, bX3 y a1 v1, bX5 y a2 t3.1, bX3 y a3 t3.2]) (kb := 0) (j := 0) F [0, 1, 2, 3] (c_X11_lookAhead l D y ek n a0 a1 a2 a3 z0_tape z0_tokens z0_hillReader z0_lawReader z0_diary z0_draft z0_spareDiary z0_guess z0_past z0_imageHill z0_imageRules z0_imageDiary _ _ _ _ _ _ _ ht3) (cwV 2 F.1.2.2.2.2 (gV q6_1 q6_3 qs_23 q1_1 q6_4) rfl rfl rfl (by decide +kernel) ⟨Nat.le_of_ble_eq_true rfl, Nat.le_of_ble_eq_true rfl⟩) rfl rfl rfl rfl (by decide) rfl rfl rfl rfl rfl rfl (Nat.le_of_ble_eq_true rfl) ⟨Nat.zero_le _, Nat.zero_le _⟩ dX11_ahead_17 ?_
      refine a_iloadn (pc := 20) (j := 3) F dX11_ahead_20 rfl rfl ?_
      refine a_if_eq (pc := 21) (tgt := 36) F dX11_ahead_21 (by decide) (fun h => ?_) (fun h => ?_)
      · replace hf := it_pos h hf
        refine a_aloadn (pc := 36) (j := 0) F dX11_ahead_36 rfl rfl ?_
        refine a_get (pc := 37) (kb := 0) (j := 0) (f := 10) F iW_X11 rfl rfl rfl (by decide) (tl q2_66) (fun _ h => h) rfl dX11_ahead_37 ?_
        refine a_get (pc := 40) (kb := 3) (j := 0) (f := 19) F iW_X3 rfl rfl rfl (by decide) (tl q1_120) (fun _ h => h) rfl dX11_ahead_40 ?_
        refine a_iloadn (pc := 43) (j := 1) F dX11_ahead_43 rfl rfl ?_
        obtain ⟨h4, hf⟩ := gd_some hf
        refine a_iald (pc := 44) (kb := 3) (j := 11) F rfl rfl h4 dX11_ahead_44 ?_
        exact absurd hf (by simp)
      · replace hf := it_neg h hf
        refine a_aloadn (pc := 24) (j := 0) F dX11_ahead_24 rfl rfl ?_
        refine a_get (pc := 25) (kb := 0) (j := 0) (f := 10) F iW_X11 rfl rfl rfl (by decide) (tl q2_66) (fun _ h => h) rfl dX11_ahead_25 ?_
        refine a_get (pc := 28) (kb := 3) (j := 0) (f := 13) F iW_X3 rfl rfl rfl (by decide) (tl q1_103) (fun _ h => h) rfl dX11_ahead_28 ?_
        refine a_iloadn (pc := 31) (j := 1) F dX11_ahead_31 rfl rfl ?_
        obtain ⟨h5, hf⟩ := gd_some hf
        refine a_iald (pc := 32) (kb := 3) (j := 5) F rfl rfl h5 dX11_ahead_32 ?_
        refine a_goto (pc := 33) (tgt := 45) F dX11_ahead_33 (by decide) ?_
        exact absurd hf (by simp)
    · replace hf := sm_inr hf
      obtain rfl := Sum.inr.inj (Option.some.inj hf)
      exact a_callSx (pc := 9) (bs' := [bX11 y a0 z0_tape z0_tokens z0_hillReader z0_lawReader (a1 0) (a2 0) z0_diary (a3 0) z0_draft z0_spareDiary z0_guess z0_past z0_imageHill z0_imageRules z0_imageDiary v0, bX3 y a1 v1, bX5 y a2 v2, bX3 y a3 v3]) F [] (x_X11_checkNumber l hlt D y ek n  _ _ _ _ ht2a) (va_cwS 3 F.1.2.2.2.2 (gS q5_19 q5_20 q1_1 q5_21) rfl rfl rfl (by decide +kernel) ⟨Nat.le_of_ble_eq_true rfl, Nat.le_of_ble_eq_true rfl⟩) (by decide) rfl rfl rfl rfl rfl rfl (Nat.le_of_ble_eq_true rfl) ⟨Nat.le_of_ble_eq_true rfl, Nat.le_of_ble_eq_true rfl⟩ dX11_ahead_9 (fun H1 locs1 ls q9 ce h1 h2 h3 h4 h5 h6 h7 => hout H1 locs1 ls _ _ _ _ q9 ce h1 h2 h3 (Nat.le_of_ble_eq_true rfl) (Nat.le_of_ble_eq_true rfl) h5 h6 h7)
  · replace hf := sm_inr hf
    obtain rfl := Sum.inr.inj (Option.some.inj hf)
    exact a_callVx (pc := 2) (bs' := [bX11 y a0 z0_tape z0_tokens z0_hillReader z0_lawReader (a1 0) (a2 0) z0_diary (a3 0) z0_draft z0_spareDiary z0_guess z0_past z0_imageHill z0_imageRules z0_imageDiary v0, bX3 y a1 v1, bX5 y a2 v2, bX3 y a3 v3]) (kb := 0) (j := 0) F [0, 1] (x_X11_checkHouse l hlt D y ek n a0 a1 z0_tape z0_tokens z0_hillReader z0_lawReader (a2 0) z0_diary (a3 0) z0_draft z0_spareDiary z0_guess z0_past z0_imageHill z0_imageRules z0_imageDiary _ _ _ _ ht1a) (cwV 1 F.1.2.2.2.2 (gV q4_199 q4_201 qs_18 q1_1 q4_202) rfl rfl rfl (by decide +kernel) ⟨Nat.le_of_ble_eq_true rfl, Nat.le_of_ble_eq_true rfl⟩) rfl rfl rfl rfl (by decide) rfl rfl rfl rfl rfl rfl (Nat.le_of_ble_eq_true rfl) ⟨Nat.le_of_ble_eq_true rfl, Nat.le_of_ble_eq_true rfl⟩ dX11_ahead_2 (fun H1 locs1 ls q9 ce h1 h2 h3 h4 h5 h6 h7 => hout H1 locs1 ls _ _ _ _ q9 ce h1 h2 h3 (Nat.le_of_ble_eq_true rfl) (Nat.le_of_ble_eq_true rfl) h5 h6 h7)

abbrev wX11_tryWeeks : List Cond := Cond.code yX11_tryWeeks cX11_tryWeeks 4 none :: WALL
def m_X11_tryWeeks (n : Nat) (v0 : St) (v1 : St) (v2 : St) (v3 : St) (v4 : St) (x1 : Int32) (x2 : Int32) : Option (St × St × St) :=
bd (m_X3_copyFrom n v3 v1) (fun t1 =>
nm (su t1 8 0 x1) (fun u2 =>
lp (fun (rc3 : Int32 × St × St × St → Option (St × St × St)) (x3l : Int32 × St × St × St) =>
(if x2 ≤ x3l.1 then
some (x3l.2.1, x3l.2.2.1, x3l.2.2.2)
else
bd (m_X3_passWeek n x3l.2.2.1 x3l.2.1 x3l.2.2.2) (fun t4 =>
rc3 ((x3l.1 + 1), t4.2.2.1, t4.2.1, t4.2.2.2)))) n (0, v2, u2, v4)))
set_option maxHeartbeats 4000000 in
set_option maxRecDepth 100000 in
theorem c_X11_tryWeeks (l : Launch) (D : va_G) (y : Nat → ClassId) (ek : EK) (n : Nat) (a0 : Nat → Nat) (a1 : Nat → Nat) (a2 : Nat → Nat) (a3 : Nat → Nat) (a4 : Nat → Nat) (z0_tape : Nat) (z0_tokens : Nat) (z0_hillReader : Nat) (z0_lawReader : Nat) (z0_diary : Nat) (z0_draft : Nat) (z0_guess : Nat) (z0_past : Nat) (z0_imageHill : Nat) (z0_imageRules : Nat) (z0_imageDiary : Nat) (v0 : St) (v1 : St) (v2 : St) (v3 : St) (v4 : St) (x1 : Int32) (x2 : Int32) (res : St × St × St) (hf : m_X11_tryWeeks n v0 v1 v2 v3 v4 x1 x2 = some res) : CV l yX11_tryWeeks wX11_tryWeeks { frames := 6, cells := 0, slots := 0, locals := 149 } D y ek [.ref (a0 0), .int x1, .int x2] [bX11 y a0 z0_tape z0_tokens z0_hillReader z0_lawReader (a1 0) (a2 0) z0_diary (a3 0) z0_draft (a4 0) z0_guess z0_past z0_imageHill z0_imageRules z0_imageDiary v0, bX3 y a1 v1, bX5 y a2 v2, bX3 y a3 v3, bX1 y a4 v4] [bX11 y a0 z0_tape z0_tokens z0_hillReader z0_lawReader (a1 0) (a2 0) z0_diary (a3 0) z0_draft (a4 0) z0_guess z0_past z0_imageHill z0_imageRules z0_imageDiary v0, bX3 y a1 v1, bX5 y a2 res.1, bX3 y a3 res.2.1, bX1 y a4 res.2.2] 0 0 := by
  unfold m_X11_tryWeeks at hf
  refine cv_of (cc := cX11_tryWeeks) (maxL := 4) (by decide) rfl rfl (Nat.le_of_ble_eq_true rfl) ?_
  intro p e s m below meth c Q A F hret
  refine a_lv (lv' := [(0, .ref (a0 0)), (1, .int x1), (2, .int x2)]) rfl ?_
  refine a_aloadn (pc := 0) (j := 0) F dX11_tryWeeks_0 rfl rfl ?_
  refine a_get (pc := 1) (kb := 0) (j := 0) (f := 10) F iW_X11 rfl rfl rfl (by decide) (tl q2_66) (fun _ h => h) rfl dX11_tryWeeks_1 ?_
  refine a_aloadn (pc := 4) (j := 0) F dX11_tryWeeks_4 rfl rfl ?_
  refine a_get (pc := 5) (kb := 0) (j := 0) (f := 7) F iW_X11 rfl rfl rfl (by decide) (tl q2_63) (fun _ h => h) rfl dX11_tryWeeks_5 ?_
  obtain ⟨t1, ht1, hf⟩ := bd_some hf
  refine a_callVv (pc := 8) (bs' := [bX11 y a0 z0_tape z0_tokens z0_hillReader z0_lawReader (a1 0) (a2 0) z0_diary (a3 0) z0_draft (a4 0) z0_guess z0_past z0_imageHill z0_imageRules z0_imageDiary v0, bX3 y a1 v1, bX5 y a2 v2, bX3 y a3 t1, bX1 y a4 v4]) (kb := 3) (j := 0) F [3, 1] (c_X3_copyFrom l D y ek n a3 a1 _ _ _ ht1) (cwV 1 F.1.2.2.2.2 (gV q2_197 q2_142 q2_143 q1_3 q2_144) rfl rfl rfl (by decide +kernel) ⟨Nat.le_of_ble_eq_true rfl, Nat.le_of_ble_eq_true rfl⟩) rfl rfl rfl rfl (by decide) rfl rfl rfl rfl rfl rfl (Nat.le_of_ble_eq_true rfl) ⟨Nat.zero_le _, Nat.zero_le _⟩ dX11_tryWeeks_8 ?_
  refine a_aloadn (pc := 11) (j := 0) F dX11_tryWeeks_11 rfl rfl ?_
  refine a_get (pc := 12) (kb := 0) (j := 0) (f := 10) F iW_X11 rfl rfl rfl (by decide) (tl q2_66) (fun _ h => h) rfl dX11_tryWeeks_12 ?_
  refine a_iloadn (pc := 15) (j := 1) F dX11_tryWeeks_15 rfl rfl ?_
  obtain ⟨u2, eu2, hf⟩ := nm_some hf
  refine a_put (pc := 16) (kb := 3) (j := 0) (f := 8) (ty := .int) (bs' := [bX11 y a0 z0_tape z0_tokens z0_hillReader z0_lawReader (a1 0) (a2 0) z0_diary (a3 0) z0_draft (a4 0) z0_guess z0_past z0_imageHill z0_imageRules z0_imageDiary v0, bX3 y a1 v1, bX5 y a2 v2, bX3 y a3 u2, bX1 y a4 v4]) F iW_X3 rfl rfl rfl (by decide) (tl q1_92) (fun _ h => h) tyX3 tyX3_ok nmX3 rfl rfl rfl rfl (Nat.le_of_ble_eq_true rfl) (by rw [eu2]; rfl) dX11_tryWeeks_16 ?_
  refine a_iconst (pc := 19) F dX11_tryWeeks_19 kc_0 ?_
  refine a_istoren (pc := 20) (lv' := [(0, .ref (a0 0)), (1, .int x1), (2, .int x2), (3, .int 0)]) F [1, 2, 3, 0] dX11_tryWeeks_20 rfl (by decide) rfl ?_
  refine a_sub [0, 2, 3] rfl ?_
  refine a_loop 21 (fun (x3l : Int32 × St × St × St) => [(0, .ref (a0 0)), (2, .int x2), (3, .int x3l.1)]) (fun (x3l : Int32 × St × St × St) => [bX11 y a0 z0_tape z0_tokens z0_hillReader z0_lawReader (a1 0) (a2 0) z0_diary (a3 0) z0_draft (a4 0) z0_guess z0_past z0_imageHill z0_imageRules z0_imageDiary v0, bX3 y a1 v1, bX5 y a2 x3l.2.1, bX3 y a3 x3l.2.2.1, bX1 y a4 x3l.2.2.2]) (fun rc3 x3l ih3 hf => ?_) hf rfl rfl
  try dsimp only at hf ⊢
  refine a_iloadn (pc := 21) (j := 2) F dX11_tryWeeks_21 rfl rfl ?_
  refine a_iloadn (pc := 22) (j := 1) F dX11_tryWeeks_22 rfl rfl ?_
  refine a_icmp_ge (pc := 23) (tgt := 48) F dX11_tryWeeks_23 (by decide) (fun h => ?_) (fun h => ?_)
  · replace hf := it_pos h hf
    obtain rfl := Option.some.inj hf
    exact hret _ _ _ _ (Nat.zero_le _) (Nat.zero_le _) dX11_tryWeeks_48
  · replace hf := it_neg h hf
    refine a_aloadn (pc := 26) (j := 0) F dX11_tryWeeks_26 rfl rfl ?_
    refine a_get (pc := 27) (kb := 0) (j := 0) (f := 10) F iW_X11 rfl rfl rfl (by decide) (tl q2_66) (fun _ h => h) rfl dX11_tryWeeks_27 ?_
    refine a_aloadn (pc := 30) (j := 0) F dX11_tryWeeks_30 rfl rfl ?_
    refine a_get (pc := 31) (kb := 0) (j := 0) (f := 8) F iW_X11 rfl rfl rfl (by decide) (tl q2_64) (fun _ h => h) rfl dX11_tryWeeks_31 ?_
    refine a_aloadn (pc := 34) (j := 0) F dX11_tryWeeks_34 rfl rfl ?_
    refine a_get (pc := 35) (kb := 0) (j := 0) (f := 12) F iW_X11 rfl rfl rfl (by decide) (tl q2_68) (fun _ h => h) rfl dX11_tryWeeks_35 ?_
    obtain ⟨t4, ht4, hf⟩ := bd_some hf
    refine a_callV (pc := 38) (bs' := [bX11 y a0 z0_tape z0_tokens z0_hillReader z0_lawReader (a1 0) (a2 0) z0_diary (a3 0) z0_draft (a4 0) z0_guess z0_past z0_imageHill z0_imageRules z0_imageDiary v0, bX3 y a1 v1, bX5 y a2 t4.2.2.1, bX3 y a3 t4.2.1, bX1 y a4 t4.2.2.2]) (kb := 3) (j := 0) F [3, 2, 4] (c_X3_passWeek l D y ek n a3 a2 a4 _ _ _ _ ht4) (cwV 2 F.1.2.2.2.2 (gV q5_51 q5_52 q5_53 q1_3 q5_54) rfl rfl rfl (by decide +kernel) ⟨Nat.le_of_ble_eq_true rfl, Nat.le_of_ble_eq_true rfl⟩) rfl rfl rfl rfl (by decide) rfl rfl rfl rfl rfl rfl (Nat.le_of_ble_eq_true rfl) ⟨Nat.zero_le _, Nat.zero_le _⟩ dX11_tryWeeks_38 ?_
    refine a_pop (pc := 41) F dX11_tryWeeks_41 rfl ?_
    refine a_iinc (pc := 42) (j := 2) (v := (x3l.1 + 1)) (lv' := [(0, .ref (a0 0)), (2, .int x2), (3, .int (x3l.1 + 1))]) F [1, 2, 0] dX11_tryWeeks_42 rfl ki_1 (by decide) rfl ?_
    refine a_goto (pc := 45) (tgt := 21) F dX11_tryWeeks_45 (by decide) ?_
    exact ih3 ((x3l.1 + 1), t4.2.2.1, t4.2.1, t4.2.2.2) hf

abbrev wX11_trial : List Cond := Cond.code yX11_trial cX11_trial 3 (some .int) :: WALL
def m_X11_trial (n : Nat) (v0 : St) (v1 : St) (v2 : St) (v3 : St) (v4 : St) (x1 : Int32) (x2 : Int32) : Option ((Int32 × St × St × St) ⊕ (Nat × St × St × St)) :=
bd (m_X11_checkNumber n x1 0 60) (fun t1 => sm t1 (fun t1a =>
bd (m_X11_tryWeeks n v0 v1 v2 v3 v4 (v1 8 0) x1) (fun t2 =>
(if x2 = 0 then
bd (m_X3_goneThings n t2.2.1) (fun t3 =>
bd (m_J6_bitCount_0f7a4 n t3) (fun t4 =>
some (Sum.inl (t4, t2.1, t2.2.1, t2.2.2))))
else
bd (m_X3_brokenPlanks n t2.2.1) (fun t5 =>
some (Sum.inl (t5, t2.1, t2.2.1, t2.2.2)))))) (fun t1x => some (Sum.inr (t1x, v2, v3, v4))))
set_option maxHeartbeats 4000000 in
set_option maxRecDepth 100000 in
theorem c_X11_trial (l : Launch) (D : va_G) (y : Nat → ClassId) (ek : EK) (n : Nat) (a0 : Nat → Nat) (a1 : Nat → Nat) (a2 : Nat → Nat) (a3 : Nat → Nat) (a4 : Nat → Nat) (z0_tape : Nat) (z0_tokens : Nat) (z0_hillReader : Nat) (z0_lawReader : Nat) (z0_diary : Nat) (z0_draft : Nat) (z0_guess : Nat) (z0_past : Nat) (z0_imageHill : Nat) (z0_imageRules : Nat) (z0_imageDiary : Nat) (v0 : St) (v1 : St) (v2 : St) (v3 : St) (v4 : St) (x1 : Int32) (x2 : Int32) (res : Int32 × St × St × St) (hf : m_X11_trial n v0 v1 v2 v3 v4 x1 x2 = some (Sum.inl res)) : CI l yX11_trial wX11_trial { frames := 7, cells := 0, slots := 0, locals := 172 } D y ek [.ref (a0 0), .int x1, .int x2] [bX11 y a0 z0_tape z0_tokens z0_hillReader z0_lawReader (a1 0) (a2 0) z0_diary (a3 0) z0_draft (a4 0) z0_guess z0_past z0_imageHill z0_imageRules z0_imageDiary v0, bX3 y a1 v1, bX5 y a2 v2, bX3 y a3 v3, bX1 y a4 v4] (res.1) [bX11 y a0 z0_tape z0_tokens z0_hillReader z0_lawReader (a1 0) (a2 0) z0_diary (a3 0) z0_draft (a4 0) z0_guess z0_past z0_imageHill z0_imageRules z0_imageDiary v0, bX3 y a1 v1, bX5 y a2 res.2.1, bX3 y a3 res.2.2.1, bX1 y a4 res.2.2.2] 0 0 := by
  unfold m_X11_trial at hf
  refine ci_of (cc := cX11_trial) (maxL := 3) (by decide) rfl rfl (Nat.le_of_ble_eq_true rfl) ?_
  intro p e s m below meth c Q A F hret
  refine a_lv (lv' := [(0, .ref (a0 0)), (1, .int x1), (2, .int x2)]) rfl ?_
  refine a_iloadn (pc := 0) (j := 1) F dX11_trial_0 rfl rfl ?_
  refine a_iconst (pc := 1) F dX11_trial_1 kc_0 ?_
  refine a_bipush (pc := 2) F dX11_trial_2 kb_60 ?_
  obtain ⟨t1, ht1a, hf⟩ := bd_some hf
  rcases t1 with t1a | t1x
  · replace hf := sm_inl hf
    refine a_callSv (pc := 4) (bs' := [bX11 y a0 z0_tape z0_tokens z0_hillReader z0_lawReader (a1 0) (a2 0) z0_diary (a3 0) z0_draft (a4 0) z0_guess z0_past z0_imageHill z0_imageRules z0_imageDiary v0, bX3 y a1 v1, bX5 y a2 v2, bX3 y a3 v3, bX1 y a4 v4]) F [] (c_X11_checkNumber l D y ek n  _ _ _ _ ht1a) (va_cwS 3 F.1.2.2.2.2 (gS q5_19 q5_20 q1_1 q5_21) rfl rfl rfl (by decide +kernel) ⟨Nat.le_of_ble_eq_true rfl, Nat.le_of_ble_eq_true rfl⟩) (by decide) rfl rfl rfl rfl rfl rfl (Nat.le_of_ble_eq_true rfl) ⟨Nat.zero_le _, Nat.zero_le _⟩ dX11_trial_4 ?_
    refine a_aloadn (pc := 7) (j := 0) F dX11_trial_7 rfl rfl ?_
    refine a_aloadn (pc := 8) (j := 0) F dX11_trial_8 rfl rfl ?_
    refine a_get (pc := 9) (kb := 0) (j := 0) (f := 7) F iW_X11 rfl rfl rfl (by decide) (tl q2_63) (fun _ h => h) rfl dX11_trial_9 ?_
    refine a_get (pc := 12) (kb := 1) (j := 0) (f := 8) F iW_X3 rfl rfl rfl (by decide) (tl q1_92) (fun _ h => h) rfl dX11_trial_12 ?_
    refine a_iloadn (pc := 15) (j := 1) F dX11_trial_15 rfl rfl ?_
    obtain ⟨t2, ht2, hf⟩ := bd_some hf
    refine a_callVv (pc := 16) (bs' := [bX11 y a0 z0_tape z0_tokens z0_hillReader z0_lawReader (a1 0) (a2 0) z0_diary (a3 0) z0_draft (a4 0) z0_guess z0_past z0_imageHill z0_imageRules z0_imageDiary v0, bX3 y a1 v1, bX5 y a2 t2.1, bX3 y a3 t2.2.1, bX1 y a4 t2.2.2]) (kb := 0) (j := 0) F [0, 1, 2, 3, 4] (c_X11_tryWeeks l D y ek n a0 a1 a2 a3 a4 z0_tape z0_tokens z0_hillReader z0_lawReader z0_diary z0_draft z0_guess z0_past z0_imageHill z0_imageRules z0_imageDiary _ _ _ _ _ _ _ _ ht2) (cwV 2 F.1.2.2.2.2 (gV q6_19 q6_21 qs_24 q1_1 q6_22) rfl rfl rfl (by decide +kernel) ⟨Nat.le_of_ble_eq_true rfl, Nat.le_of_ble_eq_true rfl⟩) rfl rfl rfl rfl (by decide) rfl rfl rfl rfl rfl rfl (Nat.le_of_ble_eq_true rfl) ⟨Nat.zero_le _, Nat.zero_le _⟩ dX11_trial_16 ?_
    refine a_iloadn (pc := 19) (j := 2) F dX11_trial_19 rfl rfl ?_
    refine a_if_eq (pc := 20) (tgt := 33) F dX11_trial_20 (by decide) (fun h => ?_) (fun h => ?_)
    · replace hf := it_pos h hf
      refine a_aloadn (pc := 33) (j := 0) F dX11_trial_33 rfl rfl ?_
      refine a_get (pc := 34) (kb := 0) (j := 0) (f := 10) F iW_X11 rfl rfl rfl (by decide) (tl q2_66) (fun _ h => h) rfl dX11_trial_34 ?_
      obtain ⟨t3, ht3, hf⟩ := bd_some hf
      refine a_callV (pc := 37) (bs' := [bX11 y a0 z0_tape z0_tokens z0_hillReader z0_lawReader (a1 0) (a2 0) z0_diary (a3 0) z0_draft (a4 0) z0_guess z0_past z0_imageHill z0_imageRules z0_imageDiary v0, bX3 y a1 v1, bX5 y a2 t2.1, bX3 y a3 t2.2.1, bX1 y a4 t2.2.2]) (kb := 3) (j := 0) F [3] (c_X3_goneThings l D y ek n a3 _ _ ht3) (cwV 0 F.1.2.2.2.2 (gV q3_81 q3_82 q3_83 q1_3 q3_84) rfl rfl rfl (by decide +kernel) ⟨Nat.le_of_ble_eq_true rfl, Nat.le_of_ble_eq_true rfl⟩) rfl rfl rfl rfl (by decide) rfl rfl rfl rfl rfl rfl (Nat.le_of_ble_eq_true rfl) ⟨Nat.zero_le _, Nat.zero_le _⟩ dX11_trial_37 ?_
      obtain ⟨t4, ht4, hf⟩ := bd_some hf
      refine a_callS (pc := 40) (bs' := [bX11 y a0 z0_tape z0_tokens z0_hillReader z0_lawReader (a1 0) (a2 0) z0_diary (a3 0) z0_draft (a4 0) z0_guess z0_past z0_imageHill z0_imageRules z0_imageDiary v0, bX3 y a1 v1, bX5 y a2 t2.1, bX3 y a3 t2.2.1, bX1 y a4 t2.2.2]) F [] (c_J6_bitCount_0f7a4 l D y ek n  _ _ ht4) (va_cwS 1 F.1.2.2.2.2 (gS q5_135 q5_100 q1_26 q5_101) rfl rfl rfl (by decide +kernel) ⟨Nat.le_of_ble_eq_true rfl, Nat.le_of_ble_eq_true rfl⟩) (by decide) rfl rfl rfl rfl rfl rfl (Nat.le_of_ble_eq_true rfl) ⟨Nat.zero_le _, Nat.zero_le _⟩ dX11_trial_40 ?_
      obtain rfl := Sum.inl.inj (Option.some.inj hf)
      exact hret _ _ _ _ (Nat.zero_le _) (Nat.zero_le _) rfl dX11_trial_43
    · replace hf := it_neg h hf
      refine a_aloadn (pc := 23) (j := 0) F dX11_trial_23 rfl rfl ?_
      refine a_get (pc := 24) (kb := 0) (j := 0) (f := 10) F iW_X11 rfl rfl rfl (by decide) (tl q2_66) (fun _ h => h) rfl dX11_trial_24 ?_
      obtain ⟨t5, ht5, hf⟩ := bd_some hf
      refine a_callV (pc := 27) (bs' := [bX11 y a0 z0_tape z0_tokens z0_hillReader z0_lawReader (a1 0) (a2 0) z0_diary (a3 0) z0_draft (a4 0) z0_guess z0_past z0_imageHill z0_imageRules z0_imageDiary v0, bX3 y a1 v1, bX5 y a2 t2.1, bX3 y a3 t2.2.1, bX1 y a4 t2.2.2]) (kb := 3) (j := 0) F [3] (c_X3_brokenPlanks l D y ek n a3 _ _ ht5) (cwV 0 F.1.2.2.2.2 (gV q3_77 q3_78 q3_79 q1_3 q3_80) rfl rfl rfl (by decide +kernel) ⟨Nat.le_of_ble_eq_true rfl, Nat.le_of_ble_eq_true rfl⟩) rfl rfl rfl rfl (by decide) rfl rfl rfl rfl rfl rfl (Nat.le_of_ble_eq_true rfl) ⟨Nat.zero_le _, Nat.zero_le _⟩ dX11_trial_27 ?_
      refine a_goto (pc := 30) (tgt := 43) F dX11_trial_30 (by decide) ?_
      obtain rfl := Sum.inl.inj (Option.some.inj hf)
      exact hret _ _ _ _ (Nat.zero_le _) (Nat.zero_le _) rfl dX11_trial_43
  · replace hf := sm_inr hf
    exact absurd hf (by simp)
set_option maxHeartbeats 4000000 in
set_option maxRecDepth 100000 in
theorem x_X11_trial (l : Launch) (hlt : l.stackTraces = false) (D : va_G) (y : Nat → ClassId) (ek : EK) (n : Nat) (a0 : Nat → Nat) (a1 : Nat → Nat) (a2 : Nat → Nat) (a3 : Nat → Nat) (a4 : Nat → Nat) (z0_tape : Nat) (z0_tokens : Nat) (z0_hillReader : Nat) (z0_lawReader : Nat) (z0_diary : Nat) (z0_draft : Nat) (z0_guess : Nat) (z0_past : Nat) (z0_imageHill : Nat) (z0_imageRules : Nat) (z0_imageDiary : Nat) (v0 : St) (v1 : St) (v2 : St) (v3 : St) (v4 : St) (x1 : Int32) (x2 : Int32) (res : Nat × St × St × St) (hf : m_X11_trial n v0 v1 v2 v3 v4 x1 x2 = some (Sum.inr res)) : CX l yX11_trial wX11_trial { frames := 7, cells := 1, slots := 6, locals := 172 } D y ek [.ref (a0 0), .int x1, .int x2] [bX11 y a0 z0_tape z0_tokens z0_hillReader z0_lawReader (a1 0) (a2 0) z0_diary (a3 0) z0_draft (a4 0) z0_guess z0_past z0_imageHill z0_imageRules z0_imageDiary v0, bX3 y a1 v1, bX5 y a2 v2, bX3 y a3 v3, bX1 y a4 v4] (eX.getD res.1 "") [bX11 y a0 z0_tape z0_tokens z0_hillReader z0_lawReader (a1 0) (a2 0) z0_diary (a3 0) z0_draft (a4 0) z0_guess z0_past z0_imageHill z0_imageRules z0_imageDiary v0, bX3 y a1 v1, bX5 y a2 res.2.1, bX3 y a3 res.2.2.1, bX1 y a4 res.2.2.2] 1 6 := by
  unfold m_X11_trial at hf
  refine cx_of (cc := cX11_trial) (maxL := 3) hlt (by decide) rfl (Nat.le_of_ble_eq_true rfl) (Nat.le_refl 1) (Nat.le_refl 6) ?_
  intro p e s m below meth c Q A F hthr hout
  refine a_lv (lv' := [(0, .ref (a0 0)), (1, .int x1), (2, .int x2)]) rfl ?_
  refine a_iloadn (pc := 0) (j := 1) F dX11_trial_0 rfl rfl ?_
  refine a_iconst (pc := 1) F dX11_trial_1 kc_0 ?_
  refine a_bipush (pc := 2) F dX11_trial_2 kb_60 ?_
  obtain ⟨t1, ht1a, hf⟩ := bd_some hf
  rcases t1 with t1a | t1x
  · replace hf := sm_inl hf
    refine a_callSv (pc := 4) (bs' := [bX11 y a0 z0_tape z0_tokens z0_hillReader z0_lawReader (a1 0) (a2 0) z0_diary (a3 0) z0_draft (a4 0) z0_guess z0_past z0_imageHill z0_imageRules z0_imageDiary v0, bX3 y a1 v1, bX5 y a2 v2, bX3 y a3 v3, bX1 y a4 v4]) F [] (c_X11_checkNumber l D y ek n  _ _ _ _ ht1a) (va_cwS 3 F.1.2.2.2.2 (gS q5_19 q5_20 q1_1 q5_21) rfl rfl rfl (by decide +kernel) ⟨Nat.le_of_ble_eq_true rfl, Nat.le_of_ble_eq_true rfl⟩) (by decide) rfl rfl rfl rfl rfl rfl (Nat.le_of_ble_eq_true rfl) ⟨Nat.zero_le _, Nat.zero_le _⟩ dX11_trial_4 ?_
    refine a_aloadn (pc := 7) (j := 0) F dX11_trial_7 rfl rfl ?_
    refine a_aloadn (pc := 8) (j := 0) F dX11_trial_8 rfl rfl ?_
    refine a_get (pc := 9) (kb := 0) (j := 0) (f := 7) F iW_X11 rfl rfl rfl (by decide) (tl q2_63) (fun _ h => h) rfl dX11_trial_9 ?_
    refine a_get (pc := 12) (kb := 1) (j := 0) (f := 8) F iW_X3 rfl rfl rfl (by decide) (tl q1_92) (fun _ h => h) rfl dX11_trial_12 ?_
    refine a_iloadn (pc := 15) (j := 1) F dX11_trial_15 rfl rfl ?_
    obtain ⟨t2, ht2, hf⟩ := bd_some hf
    refine a_callVv (pc := 16) (bs' := [bX11 y a0 z0_tape z0_tokens z0_hillReader z0_lawReader (a1 0) (a2 0) z0_diary (a3 0) z0_draft (a4 0) z0_guess z0_past z0_imageHill z0_imageRules z0_imageDiary v0, bX3 y a1 v1, bX5 y a2 t2.1, bX3 y a3 t2.2.1, bX1 y a4 t2.2.2]) (kb := 0) (j := 0) F [0, 1, 2, 3, 4] (c_X11_tryWeeks l D y ek n a0 a1 a2 a3 a4 z0_tape z0_tokens z0_hillReader z0_lawReader z0_diary z0_draft z0_guess z0_past z0_imageHill z0_imageRules z0_imageDiary _ _ _ _ _ _ _ _ ht2) (cwV 2 F.1.2.2.2.2 (gV q6_19 q6_21 qs_24 q1_1 q6_22) rfl rfl rfl (by decide +kernel) ⟨Nat.le_of_ble_eq_true rfl, Nat.le_of_ble_eq_true rfl⟩) rfl rfl rfl rfl (by decide) rfl rfl rfl rfl rfl rfl (Nat.le_of_ble_eq_true rfl) ⟨Nat.zero_le _, Nat.zero_le _⟩ dX11_trial_16 ?_
    refine a_iloadn (pc := 19) (j := 2) F dX11_trial_19 rfl rfl ?_
    refine a_if_eq (pc := 20) (tgt := 33) F dX11_trial_20 (by decide) (fun h => ?_) (fun h => ?_)
    · replace hf := it_pos h hf
      refine a_aloadn (pc := 33) (j := 0) F dX11_trial_33 rfl rfl ?_
      refine a_get (pc := 34) (kb := 0) (j := 0) (f := 10) F iW_X11 rfl rfl rfl (by decide) (tl q2_66) (fun _ h => h) rfl dX11_trial_34 ?_
      obtain ⟨t3, ht3, hf⟩ := bd_some hf
      refine a_callV (pc := 37) (bs' := [bX11 y a0 z0_tape z0_tokens z0_hillReader z0_lawReader (a1 0) (a2 0) z0_diary (a3 0) z0_draft (a4 0) z0_guess z0_past z0_imageHill z0_imageRules z0_imageDiary v0, bX3 y a1 v1, bX5 y a2 t2.1, bX3 y a3 t2.2.1, bX1 y a4 t2.2.2]) (kb := 3) (j := 0) F [3] (c_X3_goneThings l D y ek n a3 _ _ ht3) (cwV 0 F.1.2.2.2.2 (gV q3_81 q3_82 q3_83 q1_3 q3_84) rfl rfl rfl (by decide +kernel) ⟨Nat.le_of_ble_eq_true rfl, Nat.le_of_ble_eq_true rfl⟩) rfl rfl rfl rfl (by decide) rfl rfl rfl rfl rfl rfl (Nat.le_of_ble_eq_true rfl) ⟨Nat.zero_le _, Nat.zero_le _⟩ dX11_trial_37 ?_
      obtain ⟨t4, ht4, hf⟩ := bd_some hf
      refine a_callS (pc := 40) (bs' := [bX11 y a0 z0_tape z0_tokens z0_hillReader z0_lawReader (a1 0) (a2 0) z0_diary (a3 0) z0_draft (a4 0) z0_guess z0_past z0_imageHill z0_imageRules z0_imageDiary v0, bX3 y a1 v1, bX5 y a2 t2.1, bX3 y a3 t2.2.1, bX1 y a4 t2.2.2]) F [] (c_J6_bitCount_0f7a4 l D y ek n  _ _ ht4) (va_cwS 1 F.1.2.2.2.2 (gS q5_135 q5_100 q1_26 q5_101) rfl rfl rfl (by decide +kernel) ⟨Nat.le_of_ble_eq_true rfl, Nat.le_of_ble_eq_true rfl⟩) (by decide) rfl rfl rfl rfl rfl rfl (Nat.le_of_ble_eq_true rfl) ⟨Nat.zero_le _, Nat.zero_le _⟩ dX11_trial_40 ?_
      exact absurd hf (by simp)
    · replace hf := it_neg h hf
      refine a_aloadn (pc := 23) (j := 0) F dX11_trial_23 rfl rfl ?_
      refine a_get (pc := 24) (kb := 0) (j := 0) (f := 10) F iW_X11 rfl rfl rfl (by decide) (tl q2_66) (fun _ h => h) rfl dX11_trial_24 ?_
      obtain ⟨t5, ht5, hf⟩ := bd_some hf
      refine a_callV (pc := 27) (bs' := [bX11 y a0 z0_tape z0_tokens z0_hillReader z0_lawReader (a1 0) (a2 0) z0_diary (a3 0) z0_draft (a4 0) z0_guess z0_past z0_imageHill z0_imageRules z0_imageDiary v0, bX3 y a1 v1, bX5 y a2 t2.1, bX3 y a3 t2.2.1, bX1 y a4 t2.2.2]) (kb := 3) (j := 0) F [3] (c_X3_brokenPlanks l D y ek n a3 _ _ ht5) (cwV 0 F.1.2.2.2.2 (gV q3_77 q3_78 q3_79 q1_3 q3_80) rfl rfl rfl (by decide +kernel) ⟨Nat.le_of_ble_eq_true rfl, Nat.le_of_ble_eq_true rfl⟩) rfl rfl rfl rfl (by decide) rfl rfl rfl rfl rfl rfl (Nat.le_of_ble_eq_true rfl) ⟨Nat.zero_le _, Nat.zero_le _⟩ dX11_trial_27 ?_
      refine a_goto (pc := 30) (tgt := 43) F dX11_trial_30 (by decide) ?_
      exact absurd hf (by simp)
  · replace hf := sm_inr hf
    obtain rfl := Sum.inr.inj (Option.some.inj hf)
    exact a_callSx (pc := 4) (bs' := [bX11 y a0 z0_tape z0_tokens z0_hillReader z0_lawReader (a1 0) (a2 0) z0_diary (a3 0) z0_draft (a4 0) z0_guess z0_past z0_imageHill z0_imageRules z0_imageDiary v0, bX3 y a1 v1, bX5 y a2 v2, bX3 y a3 v3, bX1 y a4 v4]) F [] (x_X11_checkNumber l hlt D y ek n  _ _ _ _ ht1a) (va_cwS 3 F.1.2.2.2.2 (gS q5_19 q5_20 q1_1 q5_21) rfl rfl rfl (by decide +kernel) ⟨Nat.le_of_ble_eq_true rfl, Nat.le_of_ble_eq_true rfl⟩) (by decide) rfl rfl rfl rfl rfl rfl (Nat.le_of_ble_eq_true rfl) ⟨Nat.le_of_ble_eq_true rfl, Nat.le_of_ble_eq_true rfl⟩ dX11_trial_4 (fun H1 locs1 ls q9 ce h1 h2 h3 h4 h5 h6 h7 => hout H1 locs1 ls _ _ _ _ q9 ce h1 h2 h3 (Nat.le_of_ble_eq_true rfl) (Nat.le_of_ble_eq_true rfl) h5 h6 h7)

abbrev wX11_span : List Cond := Cond.code yX11_span cX11_span 7 (some .int) :: WALL
def m_X11_span (n : Nat) (v0 : St) (v1 : St) (v2 : St) (v3 : St) (v4 : St) (x1 : Int32) (x2 : Int32) : Option ((Int32 × St × St × St) ⊕ (Nat × St × St × St)) :=
bd (m_X11_checkNumber n x1 0 60) (fun t1 => sm t1 (fun t1a =>
bd (lp (fun (rc3 : Int32 × Int32 × Int32 × St × St × St → Option (Int32 × Int32 × St × St × St)) (x3l : Int32 × Int32 × Int32 × St × St × St) =>
(if 6 < x3l.2.2.1 then
some (x3l.1, x3l.2.1, x3l.2.2.2.1, x3l.2.2.2.2.1, x3l.2.2.2.2.2)
else
bd (m_X11_tryWeeks n v0 v1 x3l.2.2.2.1 x3l.2.2.2.2.1 x3l.2.2.2.2.2 x3l.2.2.1 x1) (fun t4 =>
bd (m_X3_goneThings n t4.2.1) (fun t5 =>
bd (m_J6_bitCount_0f7a4 n t5) (fun t6 =>
nm (x_min x3l.1 t6) (fun x3_7 =>
nm (x_max x3l.2.1 t6) (fun x4_8 =>
rc3 (x3_7, x4_8, (x3l.2.2.1 + 1), t4.1, t4.2.1, t4.2.2)))))))) n (10, 0, 1, v2, v3, v4)) (fun (t2 : Int32 × Int32 × St × St × St) =>
(if x2 = 0 then
some (Sum.inl (t2.1, t2.2.2.1, t2.2.2.2.1, t2.2.2.2.2))
else
some (Sum.inl (t2.2.1, t2.2.2.1, t2.2.2.2.1, t2.2.2.2.2))))) (fun t1x => some (Sum.inr (t1x, v2, v3, v4))))
set_option maxHeartbeats 4000000 in
set_option maxRecDepth 100000 in
theorem c_X11_span (l : Launch) (D : va_G) (y : Nat → ClassId) (ek : EK) (n : Nat) (a0 : Nat → Nat) (a1 : Nat → Nat) (a2 : Nat → Nat) (a3 : Nat → Nat) (a4 : Nat → Nat) (z0_tape : Nat) (z0_tokens : Nat) (z0_hillReader : Nat) (z0_lawReader : Nat) (z0_diary : Nat) (z0_draft : Nat) (z0_guess : Nat) (z0_past : Nat) (z0_imageHill : Nat) (z0_imageRules : Nat) (z0_imageDiary : Nat) (v0 : St) (v1 : St) (v2 : St) (v3 : St) (v4 : St) (x1 : Int32) (x2 : Int32) (res : Int32 × St × St × St) (hf : m_X11_span n v0 v1 v2 v3 v4 x1 x2 = some (Sum.inl res)) : CI l yX11_span wX11_span { frames := 7, cells := 0, slots := 0, locals := 172 } D y ek [.ref (a0 0), .int x1, .int x2] [bX11 y a0 z0_tape z0_tokens z0_hillReader z0_lawReader (a1 0) (a2 0) z0_diary (a3 0) z0_draft (a4 0) z0_guess z0_past z0_imageHill z0_imageRules z0_imageDiary v0, bX3 y a1 v1, bX5 y a2 v2, bX3 y a3 v3, bX1 y a4 v4] (res.1) [bX11 y a0 z0_tape z0_tokens z0_hillReader z0_lawReader (a1 0) (a2 0) z0_diary (a3 0) z0_draft (a4 0) z0_guess z0_past z0_imageHill z0_imageRules z0_imageDiary v0, bX3 y a1 v1, bX5 y a2 res.2.1, bX3 y a3 res.2.2.1, bX1 y a4 res.2.2.2] 0 0 := by
  unfold m_X11_span at hf
  refine ci_of (cc := cX11_span) (maxL := 7) (by decide) rfl rfl (Nat.le_of_ble_eq_true rfl) ?_
  intro p e s m below meth c Q A F hret
  refine a_lv (lv' := [(0, .ref (a0 0)), (1, .int x1), (2, .int x2)]) rfl ?_
  refine a_iloadn (pc := 0) (j := 1) F dX11_span_0 rfl rfl ?_
  refine a_iconst (pc := 1) F dX11_span_1 kc_0 ?_
  refine a_bipush (pc := 2) F dX11_span_2 kb_60 ?_
  obtain ⟨t1, ht1a, hf⟩ := bd_some hf
  rcases t1 with t1a | t1x
  · replace hf := sm_inl hf
    refine a_callSv (pc := 4) (bs' := [bX11 y a0 z0_tape z0_tokens z0_hillReader z0_lawReader (a1 0) (a2 0) z0_diary (a3 0) z0_draft (a4 0) z0_guess z0_past z0_imageHill z0_imageRules z0_imageDiary v0, bX3 y a1 v1, bX5 y a2 v2, bX3 y a3 v3, bX1 y a4 v4]) F [] (c_X11_checkNumber l D y ek n  _ _ _ _ ht1a) (va_cwS 3 F.1.2.2.2.2 (gS q5_19 q5_20 q1_1 q5_21) rfl rfl rfl (by decide +kernel) ⟨Nat.le_of_ble_eq_true rfl, Nat.le_of_ble_eq_true rfl⟩) (by decide) rfl rfl rfl rfl rfl rfl (Nat.le_of_ble_eq_true rfl) ⟨Nat.zero_le _, Nat.zero_le _⟩ dX11_span_4 ?_
    refine a_bipush (pc := 7) F dX11_span_7 kb_10 ?_
    refine a_istoren (pc := 9) (lv' := [(0, .ref (a0 0)), (1, .int x1), (2, .int x2), (3, .int 10)]) F [1, 2, 3, 0] dX11_span_9 rfl (by decide) rfl ?_
    refine a_iconst (pc := 10) F dX11_span_10 kc_0 ?_
    refine a_istore (pc := 11) (lv' := [(0, .ref (a0 0)), (1, .int x1), (2, .int x2), (3, .int 10), (4, .int 0)]) F [1, 2, 3, 4, 0] dX11_span_11 (by decide) rfl ?_
    refine a_iconst (pc := 13) F dX11_span_13 kc_1 ?_
    refine a_istore (pc := 14) (lv' := [(0, .ref (a0 0)), (1, .int x1), (2, .int x2), (3, .int 10), (4, .int 0), (5, .int 1)]) F [1, 2, 3, 4, 5, 0] dX11_span_14 (by decide) rfl ?_
    refine a_join 64 (fun (t2 : Int32 × Int32 × St × St × St) => [(2, .int x2), (3, .int t2.1), (4, .int t2.2.1)]) (fun (t2 : Int32 × Int32 × St × St × St) => []) (fun (t2 : Int32 × Int32 × St × St × St) => [bX11 y a0 z0_tape z0_tokens z0_hillReader z0_lawReader (a1 0) (a2 0) z0_diary (a3 0) z0_draft (a4 0) z0_guess z0_past z0_imageHill z0_imageRules z0_imageDiary v0, bX3 y a1 v1, bX5 y a2 t2.2.2.1, bX3 y a3 t2.2.2.2.1, bX1 y a4 t2.2.2.2.2]) hf (fun t2 hf => ?_) (fun t2 hf J2 => ?_)
    · try dsimp only at hf ⊢
      refine a_iloadn (pc := 64) (j := 0) F dX11_span_64 rfl rfl ?_
      refine a_if_eq (pc := 65) (tgt := 73) F dX11_span_65 (by decide) (fun h => ?_) (fun h => ?_)
      · replace hf := it_pos h hf
        refine a_iloadn (pc := 73) (j := 1) F dX11_span_73 rfl rfl ?_
        obtain rfl := Sum.inl.inj (Option.some.inj hf)
        exact hret _ _ _ _ (Nat.zero_le _) (Nat.zero_le _) rfl dX11_span_74
      · replace hf := it_neg h hf
        refine a_iload (pc := 68) (j := 2) F dX11_span_68 rfl ?_
        refine a_goto (pc := 70) (tgt := 74) F dX11_span_70 (by decide) ?_
        obtain rfl := Sum.inl.inj (Option.some.inj hf)
        exact hret _ _ _ _ (Nat.zero_le _) (Nat.zero_le _) rfl dX11_span_74
    · refine a_loop 16 (fun (x3l : Int32 × Int32 × Int32 × St × St × St) => [(0, .ref (a0 0)), (1, .int x1), (2, .int x2), (3, .int x3l.1), (4, .int x3l.2.1), (5, .int x3l.2.2.1)]) (fun (x3l : Int32 × Int32 × Int32 × St × St × St) => [bX11 y a0 z0_tape z0_tokens z0_hillReader z0_lawReader (a1 0) (a2 0) z0_diary (a3 0) z0_draft (a4 0) z0_guess z0_past z0_imageHill z0_imageRules z0_imageDiary v0, bX3 y a1 v1, bX5 y a2 x3l.2.2.2.1, bX3 y a3 x3l.2.2.2.2.1, bX1 y a4 x3l.2.2.2.2.2]) (fun rc3 x3l ih3 hf => ?_) hf rfl rfl
      try dsimp only at hf ⊢
      refine a_iload (pc := 16) (j := 5) F dX11_span_16 rfl ?_
      refine a_bipush (pc := 18) F dX11_span_18 kb_6 ?_
      refine a_icmp_gt (pc := 20) (tgt := 64) F dX11_span_20 (by decide) (fun h => ?_) (fun h => ?_)
      · replace hf := it_pos h hf
        refine a_sub [2, 3, 4] rfl ?_
        obtain rfl := Option.some.inj hf
        exact J2
      · replace hf := it_neg h hf
        refine a_aloadn (pc := 23) (j := 0) F dX11_span_23 rfl rfl ?_
        refine a_iload (pc := 24) (j := 5) F dX11_span_24 rfl ?_
        refine a_iloadn (pc := 26) (j := 1) F dX11_span_26 rfl rfl ?_
        obtain ⟨t4, ht4, hf⟩ := bd_some hf
        refine a_callVv (pc := 27) (bs' := [bX11 y a0 z0_tape z0_tokens z0_hillReader z0_lawReader (a1 0) (a2 0) z0_diary (a3 0) z0_draft (a4 0) z0_guess z0_past z0_imageHill z0_imageRules z0_imageDiary v0, bX3 y a1 v1, bX5 y a2 t4.1, bX3 y a3 t4.2.1, bX1 y a4 t4.2.2]) (kb := 0) (j := 0) F [0, 1, 2, 3, 4] (c_X11_tryWeeks l D y ek n a0 a1 a2 a3 a4 z0_tape z0_tokens z0_hillReader z0_lawReader z0_diary z0_draft z0_guess z0_past z0_imageHill z0_imageRules z0_imageDiary _ _ _ _ _ _ _ _ ht4) (cwV 2 F.1.2.2.2.2 (gV q6_19 q6_21 qs_24 q1_1 q6_22) rfl rfl rfl (by decide +kernel) ⟨Nat.le_of_ble_eq_true rfl, Nat.le_of_ble_eq_true rfl⟩) rfl rfl rfl rfl (by decide) rfl rfl rfl rfl rfl rfl (Nat.le_of_ble_eq_true rfl) ⟨Nat.zero_le _, Nat.zero_le _⟩ dX11_span_27 ?_
        refine a_aloadn (pc := 30) (j := 0) F dX11_span_30 rfl rfl ?_
        refine a_get (pc := 31) (kb := 0) (j := 0) (f := 10) F iW_X11 rfl rfl rfl (by decide) (tl q2_66) (fun _ h => h) rfl dX11_span_31 ?_
        obtain ⟨t5, ht5, hf⟩ := bd_some hf
        refine a_callV (pc := 34) (bs' := [bX11 y a0 z0_tape z0_tokens z0_hillReader z0_lawReader (a1 0) (a2 0) z0_diary (a3 0) z0_draft (a4 0) z0_guess z0_past z0_imageHill z0_imageRules z0_imageDiary v0, bX3 y a1 v1, bX5 y a2 t4.1, bX3 y a3 t4.2.1, bX1 y a4 t4.2.2]) (kb := 3) (j := 0) F [3] (c_X3_goneThings l D y ek n a3 _ _ ht5) (cwV 0 F.1.2.2.2.2 (gV q3_81 q3_82 q3_83 q1_3 q3_84) rfl rfl rfl (by decide +kernel) ⟨Nat.le_of_ble_eq_true rfl, Nat.le_of_ble_eq_true rfl⟩) rfl rfl rfl rfl (by decide) rfl rfl rfl rfl rfl rfl (Nat.le_of_ble_eq_true rfl) ⟨Nat.zero_le _, Nat.zero_le _⟩ dX11_span_34 ?_
        obtain ⟨t6, ht6, hf⟩ := bd_some hf
        refine a_callS (pc := 37) (bs' := [bX11 y a0 z0_tape z0_tokens z0_hillReader z0_lawReader (a1 0) (a2 0) z0_diary (a3 0) z0_draft (a4 0) z0_guess z0_past z0_imageHill z0_imageRules z0_imageDiary v0, bX3 y a1 v1, bX5 y a2 t4.1, bX3 y a3 t4.2.1, bX1 y a4 t4.2.2]) F [] (c_J6_bitCount_0f7a4 l D y ek n  _ _ ht6) (va_cwS 1 F.1.2.2.2.2 (gS q5_135 q5_100 q1_26 q5_101) rfl rfl rfl (by decide +kernel) ⟨Nat.le_of_ble_eq_true rfl, Nat.le_of_ble_eq_true rfl⟩) (by decide) rfl rfl rfl rfl rfl rfl (Nat.le_of_ble_eq_true rfl) ⟨Nat.zero_le _, Nat.zero_le _⟩ dX11_span_37 ?_
        refine a_istore (pc := 40) (lv' := [(0, .ref (a0 0)), (1, .int x1), (2, .int x2), (3, .int x3l.1), (4, .int x3l.2.1), (5, .int x3l.2.2.1), (6, .int t6)]) F [1, 2, 3, 4, 5, 6, 0] dX11_span_40 (by decide) rfl ?_
        refine a_iloadn (pc := 42) (j := 3) F dX11_span_42 rfl rfl ?_
        refine a_iload (pc := 43) (j := 6) F dX11_span_43 rfl ?_
        refine a_mmin (pc := 45) F (tl q5_43) (tl q2_170) (tl q1_22) (tl q_math_min) (Nat.le_of_ble_eq_true rfl) (Nat.le_of_ble_eq_true rfl) (Nat.zero_le _) (Nat.zero_le _) dX11_span_45 ?_
        obtain ⟨x3_7, ex3_7, hf⟩ := nm_some hf
        refine a_nmi ex3_7 ?_
        refine a_istoren (pc := 48) (lv' := [(0, .ref (a0 0)), (1, .int x1), (2, .int x2), (3, .int x3_7), (4, .int x3l.2.1), (5, .int x3l.2.2.1), (6, .int t6)]) F [1, 2, 3, 0, 4, 5, 6] dX11_span_48 rfl (by decide) rfl ?_
        refine a_iload (pc := 49) (j := 4) F dX11_span_49 rfl ?_
        refine a_iload (pc := 51) (j := 6) F dX11_span_51 rfl ?_
        refine a_mmax (pc := 53) F (tl q6_30) (tl q2_173) (tl q1_22) (tl q_math_max) (Nat.le_of_ble_eq_true rfl) (Nat.le_of_ble_eq_true rfl) (Nat.zero_le _) (Nat.zero_le _) dX11_span_53 ?_
        obtain ⟨x4_8, ex4_8, hf⟩ := nm_some hf
        refine a_nmi ex4_8 ?_
        refine a_istore (pc := 56) (lv' := [(0, .ref (a0 0)), (1, .int x1), (2, .int x2), (3, .int x3_7), (4, .int x4_8), (5, .int x3l.2.2.1), (6, .int t6)]) F [1, 2, 3, 4, 0, 5, 6] dX11_span_56 (by decide) rfl ?_
        refine a_iinc (pc := 58) (j := 5) (v := (x3l.2.2.1 + 1)) (lv' := [(0, .ref (a0 0)), (1, .int x1), (2, .int x2), (3, .int x3_7), (4, .int x4_8), (5, .int (x3l.2.2.1 + 1)), (6, .int t6)]) F [1, 2, 3, 4, 5, 0, 6] dX11_span_58 rfl ki_1 (by decide) rfl ?_
        refine a_goto (pc := 61) (tgt := 16) F dX11_span_61 (by decide) ?_
        refine a_sub [0, 1, 2, 3, 4, 5] rfl ?_
        exact ih3 (x3_7, x4_8, (x3l.2.2.1 + 1), t4.1, t4.2.1, t4.2.2) hf
  · replace hf := sm_inr hf
    exact absurd hf (by simp)
set_option maxHeartbeats 4000000 in
set_option maxRecDepth 100000 in
theorem x_X11_span (l : Launch) (hlt : l.stackTraces = false) (D : va_G) (y : Nat → ClassId) (ek : EK) (n : Nat) (a0 : Nat → Nat) (a1 : Nat → Nat) (a2 : Nat → Nat) (a3 : Nat → Nat) (a4 : Nat → Nat) (z0_tape : Nat) (z0_tokens : Nat) (z0_hillReader : Nat) (z0_lawReader : Nat) (z0_diary : Nat) (z0_draft : Nat) (z0_guess : Nat) (z0_past : Nat) (z0_imageHill : Nat) (z0_imageRules : Nat) (z0_imageDiary : Nat) (v0 : St) (v1 : St) (v2 : St) (v3 : St) (v4 : St) (x1 : Int32) (x2 : Int32) (res : Nat × St × St × St) (hf : m_X11_span n v0 v1 v2 v3 v4 x1 x2 = some (Sum.inr res)) : CX l yX11_span wX11_span { frames := 7, cells := 1, slots := 6, locals := 172 } D y ek [.ref (a0 0), .int x1, .int x2] [bX11 y a0 z0_tape z0_tokens z0_hillReader z0_lawReader (a1 0) (a2 0) z0_diary (a3 0) z0_draft (a4 0) z0_guess z0_past z0_imageHill z0_imageRules z0_imageDiary v0, bX3 y a1 v1, bX5 y a2 v2, bX3 y a3 v3, bX1 y a4 v4] (eX.getD res.1 "") [bX11 y a0 z0_tape z0_tokens z0_hillReader z0_lawReader (a1 0) (a2 0) z0_diary (a3 0) z0_draft (a4 0) z0_guess z0_past z0_imageHill z0_imageRules z0_imageDiary v0, bX3 y a1 v1, bX5 y a2 res.2.1, bX3 y a3 res.2.2.1, bX1 y a4 res.2.2.2] 1 6 := by
  unfold m_X11_span at hf
  refine cx_of (cc := cX11_span) (maxL := 7) hlt (by decide) rfl (Nat.le_of_ble_eq_true rfl) (Nat.le_refl 1) (Nat.le_refl 6) ?_
  intro p e s m below meth c Q A F hthr hout
  refine a_lv (lv' := [(0, .ref (a0 0)), (1, .int x1), (2, .int x2)]) rfl ?_
  refine a_iloadn (pc := 0) (j := 1) F dX11_span_0 rfl rfl ?_
  refine a_iconst (pc := 1) F dX11_span_1 kc_0 ?_
  refine a_bipush (pc := 2) F dX11_span_2 kb_60 ?_
  obtain ⟨t1, ht1a, hf⟩ := bd_some hf
  rcases t1 with t1a | t1x
  · replace hf := sm_inl hf
    refine a_callSv (pc := 4) (bs' := [bX11 y a0 z0_tape z0_tokens z0_hillReader z0_lawReader (a1 0) (a2 0) z0_diary (a3 0) z0_draft (a4 0) z0_guess z0_past z0_imageHill z0_imageRules z0_imageDiary v0, bX3 y a1 v1, bX5 y a2 v2, bX3 y a3 v3, bX1 y a4 v4]) F [] (c_X11_checkNumber l D y ek n  _ _ _ _ ht1a) (va_cwS 3 F.1.2.2.2.2 (gS q5_19 q5_20 q1_1 q5_21) rfl rfl rfl (by decide +kernel) ⟨Nat.le_of_ble_eq_true rfl, Nat.le_of_ble_eq_true rfl⟩) (by decide) rfl rfl rfl rfl rfl rfl (Nat.le_of_ble_eq_true rfl) ⟨Nat.zero_le _, Nat.zero_le _⟩ dX11_span_4 ?_
    refine a_bipush (pc := 7) F dX11_span_7 kb_10 ?_
    refine a_istoren (pc := 9) (lv' := [(0, .ref (a0 0)), (1, .int x1), (2, .int x2), (3, .int 10)]) F [1, 2, 3, 0] dX11_span_9 rfl (by decide) rfl ?_
    refine a_iconst (pc := 10) F dX11_span_10 kc_0 ?_
    refine a_istore (pc := 11) (lv' := [(0, .ref (a0 0)), (1, .int x1), (2, .int x2), (3, .int 10), (4, .int 0)]) F [1, 2, 3, 4, 0] dX11_span_11 (by decide) rfl ?_
    refine a_iconst (pc := 13) F dX11_span_13 kc_1 ?_
    refine a_istore (pc := 14) (lv' := [(0, .ref (a0 0)), (1, .int x1), (2, .int x2), (3, .int 10), (4, .int 0), (5, .int 1)]) F [1, 2, 3, 4, 5, 0] dX11_span_14 (by decide) rfl ?_
    refine a_join 64 (fun (t2 : Int32 × Int32 × St × St × St) => [(2, .int x2), (3, .int t2.1), (4, .int t2.2.1)]) (fun (t2 : Int32 × Int32 × St × St × St) => []) (fun (t2 : Int32 × Int32 × St × St × St) => [bX11 y a0 z0_tape z0_tokens z0_hillReader z0_lawReader (a1 0) (a2 0) z0_diary (a3 0) z0_draft (a4 0) z0_guess z0_past z0_imageHill z0_imageRules z0_imageDiary v0, bX3 y a1 v1, bX5 y a2 t2.2.2.1, bX3 y a3 t2.2.2.2.1, bX1 y a4 t2.2.2.2.2]) hf (fun t2 hf => ?_) (fun t2 hf J2 => ?_)
    · try dsimp only at hf ⊢
      refine a_iloadn (pc := 64) (j := 0) F dX11_span_64 rfl rfl ?_
      refine a_if_eq (pc := 65) (tgt := 73) F dX11_span_65 (by decide) (fun h => ?_) (fun h => ?_)
      · replace hf := it_pos h hf
        refine a_iloadn (pc := 73) (j := 1) F dX11_span_73 rfl rfl ?_
        exact absurd hf (by simp)
      · replace hf := it_neg h hf
        refine a_iload (pc := 68) (j := 2) F dX11_span_68 rfl ?_
        refine a_goto (pc := 70) (tgt := 74) F dX11_span_70 (by decide) ?_
        exact absurd hf (by simp)
    · refine a_loop 16 (fun (x3l : Int32 × Int32 × Int32 × St × St × St) => [(0, .ref (a0 0)), (1, .int x1), (2, .int x2), (3, .int x3l.1), (4, .int x3l.2.1), (5, .int x3l.2.2.1)]) (fun (x3l : Int32 × Int32 × Int32 × St × St × St) => [bX11 y a0 z0_tape z0_tokens z0_hillReader z0_lawReader (a1 0) (a2 0) z0_diary (a3 0) z0_draft (a4 0) z0_guess z0_past z0_imageHill z0_imageRules z0_imageDiary v0, bX3 y a1 v1, bX5 y a2 x3l.2.2.2.1, bX3 y a3 x3l.2.2.2.2.1, bX1 y a4 x3l.2.2.2.2.2]) (fun rc3 x3l ih3 hf => ?_) hf rfl rfl
      try dsimp only at hf ⊢
      refine a_iload (pc := 16) (j := 5) F dX11_span_16 rfl ?_
      refine a_bipush (pc := 18) F dX11_span_18 kb_6 ?_
      refine a_icmp_gt (pc := 20) (tgt := 64) F dX11_span_20 (by decide) (fun h => ?_) (fun h => ?_)
      · replace hf := it_pos h hf
        refine a_sub [2, 3, 4] rfl ?_
        obtain rfl := Option.some.inj hf
        exact J2
      · replace hf := it_neg h hf
        refine a_aloadn (pc := 23) (j := 0) F dX11_span_23 rfl rfl ?_
        refine a_iload (pc := 24) (j := 5) F dX11_span_24 rfl ?_
        refine a_iloadn (pc := 26) (j := 1) F dX11_span_26 rfl rfl ?_
        obtain ⟨t4, ht4, hf⟩ := bd_some hf
        refine a_callVv (pc := 27) (bs' := [bX11 y a0 z0_tape z0_tokens z0_hillReader z0_lawReader (a1 0) (a2 0) z0_diary (a3 0) z0_draft (a4 0) z0_guess z0_past z0_imageHill z0_imageRules z0_imageDiary v0, bX3 y a1 v1, bX5 y a2 t4.1, bX3 y a3 t4.2.1, bX1 y a4 t4.2.2]) (kb := 0) (j := 0) F [0, 1, 2, 3, 4] (c_X11_tryWeeks l D y ek n a0 a1 a2 a3 a4 z0_tape z0_tokens z0_hillReader z0_lawReader z0_diary z0_draft z0_guess z0_past z0_imageHill z0_imageRules z0_imageDiary _ _ _ _ _ _ _ _ ht4) (cwV 2 F.1.2.2.2.2 (gV q6_19 q6_21 qs_24 q1_1 q6_22) rfl rfl rfl (by decide +kernel) ⟨Nat.le_of_ble_eq_true rfl, Nat.le_of_ble_eq_true rfl⟩) rfl rfl rfl rfl (by decide) rfl rfl rfl rfl rfl rfl (Nat.le_of_ble_eq_true rfl) ⟨Nat.zero_le _, Nat.zero_le _⟩ dX11_span_27 ?_
        refine a_aloadn (pc := 30) (j := 0) F dX11_span_30 rfl rfl ?_
        refine a_get (pc := 31) (kb := 0) (j := 0) (f := 10) F iW_X11 rfl rfl rfl (by decide) (tl q2_66) (fun _ h => h) rfl dX11_span_31 ?_
        obtain ⟨t5, ht5, hf⟩ := bd_some hf
        refine a_callV (pc := 34) (bs' := [bX11 y a0 z0_tape z0_tokens z0_hillReader z0_lawReader (a1 0) (a2 0) z0_diary (a3 0) z0_draft (a4 0) z0_guess z0_past z0_imageHill z0_imageRules z0_imageDiary v0, bX3 y a1 v1, bX5 y a2 t4.1, bX3 y a3 t4.2.1, bX1 y a4 t4.2.2]) (kb := 3) (j := 0) F [3] (c_X3_goneThings l D y ek n a3 _ _ ht5) (cwV 0 F.1.2.2.2.2 (gV q3_81 q3_82 q3_83 q1_3 q3_84) rfl rfl rfl (by decide +kernel) ⟨Nat.le_of_ble_eq_true rfl, Nat.le_of_ble_eq_true rfl⟩) rfl rfl rfl rfl (by decide) rfl rfl rfl rfl rfl rfl (Nat.le_of_ble_eq_true rfl) ⟨Nat.zero_le _, Nat.zero_le _⟩ dX11_span_34 ?_
        obtain ⟨t6, ht6, hf⟩ := bd_some hf
        refine a_callS (pc := 37) (bs' := [bX11 y a0 z0_tape z0_tokens z0_hillReader z0_lawReader (a1 0) (a2 0) z0_diary (a3 0) z0_draft (a4 0) z0_guess z0_past z0_imageHill z0_imageRules z0_imageDiary v0, bX3 y a1 v1, bX5 y a2 t4.1, bX3 y a3 t4.2.1, bX1 y a4 t4.2.2]) F [] (c_J6_bitCount_0f7a4 l D y ek n  _ _ ht6) (va_cwS 1 F.1.2.2.2.2 (gS q5_135 q5_100 q1_26 q5_101) rfl rfl rfl (by decide +kernel) ⟨Nat.le_of_ble_eq_true rfl, Nat.le_of_ble_eq_true rfl⟩) (by decide) rfl rfl rfl rfl rfl rfl (Nat.le_of_ble_eq_true rfl) ⟨Nat.zero_le _, Nat.zero_le _⟩ dX11_span_37 ?_
        refine a_istore (pc := 40) (lv' := [(0, .ref (a0 0)), (1, .int x1), (2, .int x2), (3, .int x3l.1), (4, .int x3l.2.1), (5, .int x3l.2.2.1), (6, .int t6)]) F [1, 2, 3, 4, 5, 6, 0] dX11_span_40 (by decide) rfl ?_
        refine a_iloadn (pc := 42) (j := 3) F dX11_span_42 rfl rfl ?_
        refine a_iload (pc := 43) (j := 6) F dX11_span_43 rfl ?_
        refine a_mmin (pc := 45) F (tl q5_43) (tl q2_170) (tl q1_22) (tl q_math_min) (Nat.le_of_ble_eq_true rfl) (Nat.le_of_ble_eq_true rfl) (Nat.zero_le _) (Nat.zero_le _) dX11_span_45 ?_
        obtain ⟨x3_7, ex3_7, hf⟩ := nm_some hf
        refine a_nmi ex3_7 ?_
        refine a_istoren (pc := 48) (lv' := [(0, .ref (a0 0)), (1, .int x1), (2, .int x2), (3, .int x3_7), (4, .int x3l.2.1), (5, .int x3l.2.2.1), (6, .int t6)]) F [1, 2, 3, 0, 4, 5, 6] dX11_span_48 rfl (by decide) rfl ?_
        refine a_iload (pc := 49) (j := 4) F dX11_span_49 rfl ?_
        refine a_iload (pc := 51) (j := 6) F dX11_span_51 rfl ?_
        refine a_mmax (pc := 53) F (tl q6_30) (tl q2_173) (tl q1_22) (tl q_math_max) (Nat.le_of_ble_eq_true rfl) (Nat.le_of_ble_eq_true rfl) (Nat.zero_le _) (Nat.zero_le _) dX11_span_53 ?_
        obtain ⟨x4_8, ex4_8, hf⟩ := nm_some hf
        refine a_nmi ex4_8 ?_
        refine a_istore (pc := 56) (lv' := [(0, .ref (a0 0)), (1, .int x1), (2, .int x2), (3, .int x3_7), (4, .int x4_8), (5, .int x3l.2.2.1), (6, .int t6)]) F [1, 2, 3, 4, 0, 5, 6] dX11_span_56 (by decide) rfl ?_
        refine a_iinc (pc := 58) (j := 5) (v := (x3l.2.2.1 + 1)) (lv' := [(0, .ref (a0 0)), (1, .int x1), (2, .int x2), (3, .int x3_7), (4, .int x4_8), (5, .int (x3l.2.2.1 + 1)), (6, .int t6)]) F [1, 2, 3, 4, 5, 0, 6] dX11_span_58 rfl ki_1 (by decide) rfl ?_
        refine a_goto (pc := 61) (tgt := 16) F dX11_span_61 (by decide) ?_
        refine a_sub [0, 1, 2, 3, 4, 5] rfl ?_
        exact ih3 (x3_7, x4_8, (x3l.2.2.1 + 1), t4.1, t4.2.1, t4.2.2) hf
  · replace hf := sm_inr hf
    obtain rfl := Sum.inr.inj (Option.some.inj hf)
    exact a_callSx (pc := 4) (bs' := [bX11 y a0 z0_tape z0_tokens z0_hillReader z0_lawReader (a1 0) (a2 0) z0_diary (a3 0) z0_draft (a4 0) z0_guess z0_past z0_imageHill z0_imageRules z0_imageDiary v0, bX3 y a1 v1, bX5 y a2 v2, bX3 y a3 v3, bX1 y a4 v4]) F [] (x_X11_checkNumber l hlt D y ek n  _ _ _ _ ht1a) (va_cwS 3 F.1.2.2.2.2 (gS q5_19 q5_20 q1_1 q5_21) rfl rfl rfl (by decide +kernel) ⟨Nat.le_of_ble_eq_true rfl, Nat.le_of_ble_eq_true rfl⟩) (by decide) rfl rfl rfl rfl rfl rfl (Nat.le_of_ble_eq_true rfl) ⟨Nat.le_of_ble_eq_true rfl, Nat.le_of_ble_eq_true rfl⟩ dX11_span_4 (fun H1 locs1 ls q9 ce h1 h2 h3 h4 h5 h6 h7 => hout H1 locs1 ls _ _ _ _ q9 ce h1 h2 h3 (Nat.le_of_ble_eq_true rfl) (Nat.le_of_ble_eq_true rfl) h5 h6 h7)

abbrev wX11_match : List Cond := Cond.code yX11_match cX11_match 5 (some .int) :: WALL
def m_X11_match (n : Nat) (v0 : St) (v1 : St) (x1 : Int32) (x2 : Int32) : Option ((Int32) ⊕ (Nat)) :=
jn (fun (t1 : Unit) =>
bd (m_X3_houses n v1) (fun t2 =>
nm (x1 &&& ((x_shl 1 t2) - 1)) (fun x3_3 =>
bd (m_J6_bitCount_0f7a4 n x3_3) (fun t4 =>
(if (x_rem t4 2) = 0 then
(if t4 ≤ 8 then
(if x2 = (-1) then
bd (m_X7_howMuch n (fun _ => v1 18) x3_3) (fun t6 =>
some (Sum.inl t6))
else
bd (m_X7_partnerOf n (fun _ => v1 18) x3_3 x2) (fun t5 =>
some (Sum.inl t5)))
else
some (Sum.inl (-1)))
else
some (Sum.inl (-1))))))) (fun (K1 : Unit → Option ((Int32) ⊕ (Nat))) =>
(if x2 = (-1) then
K1 ()
else
bd (m_X11_checkHouse n v0 v1 x2) (fun t7 => sm t7 (fun t7a =>
K1 ()) (fun t7x => some (Sum.inr t7x)))))
set_option maxHeartbeats 4000000 in
set_option maxRecDepth 100000 in
theorem c_X11_match (l : Launch) (D : va_G) (y : Nat → ClassId) (ek : EK) (n : Nat) (a0 : Nat → Nat) (a1 : Nat → Nat) (z0_tape : Nat) (z0_tokens : Nat) (z0_hillReader : Nat) (z0_lawReader : Nat) (z0_rules : Nat) (z0_diary : Nat) (z0_spare : Nat) (z0_draft : Nat) (z0_spareDiary : Nat) (z0_guess : Nat) (z0_past : Nat) (z0_imageHill : Nat) (z0_imageRules : Nat) (z0_imageDiary : Nat) (v0 : St) (v1 : St) (x1 : Int32) (x2 : Int32) (res : Int32) (hf : m_X11_match n v0 v1 x1 x2 = some (Sum.inl res)) : CI l yX11_match wX11_match { frames := 68, cells := 0, slots := 0, locals := 1892 } D y ek [.ref (a0 0), .int x1, .int x2] [bX11 y a0 z0_tape z0_tokens z0_hillReader z0_lawReader (a1 0) z0_rules z0_diary z0_spare z0_draft z0_spareDiary z0_guess z0_past z0_imageHill z0_imageRules z0_imageDiary v0, bX3 y a1 v1] (res) [bX11 y a0 z0_tape z0_tokens z0_hillReader z0_lawReader (a1 0) z0_rules z0_diary z0_spare z0_draft z0_spareDiary z0_guess z0_past z0_imageHill z0_imageRules z0_imageDiary v0, bX3 y a1 v1] 0 0 := by
  unfold m_X11_match at hf
  refine ci_of (cc := cX11_match) (maxL := 5) (by decide) rfl rfl (Nat.le_of_ble_eq_true rfl) ?_
  intro p e s m below meth c Q A F hret
  refine a_lv (lv' := [(0, .ref (a0 0)), (1, .int x1), (2, .int x2)]) rfl ?_
  refine a_iloadn (pc := 0) (j := 2) F dX11_match_0 rfl rfl ?_
  refine a_iconst (pc := 1) F dX11_match_1 kc_m1 ?_
  refine a_jn 10 (fun (t1 : Unit) => [(0, .ref (a0 0)), (1, .int x1), (2, .int x2)]) (fun (t1 : Unit) => []) (fun (t1 : Unit) => [bX11 y a0 z0_tape z0_tokens z0_hillReader z0_lawReader (a1 0) z0_rules z0_diary z0_spare z0_draft z0_spareDiary z0_guess z0_past z0_imageHill z0_imageRules z0_imageDiary v0, bX3 y a1 v1]) hf (fun t1 hf => ?_) (fun K1 hK1 hf => ?_)
  · try dsimp only at hf ⊢
    refine a_iloadn (pc := 10) (j := 1) F dX11_match_10 rfl rfl ?_
    refine a_iconst (pc := 11) F dX11_match_11 kc_1 ?_
    refine a_aloadn (pc := 12) (j := 0) F dX11_match_12 rfl rfl ?_
    refine a_get (pc := 13) (kb := 0) (j := 0) (f := 7) F iW_X11 rfl rfl rfl (by decide) (tl q2_63) (fun _ h => h) rfl dX11_match_13 ?_
    obtain ⟨t2, ht2, hf⟩ := bd_some hf
    refine a_callV (pc := 16) (bs' := [bX11 y a0 z0_tape z0_tokens z0_hillReader z0_lawReader (a1 0) z0_rules z0_diary z0_spare z0_draft z0_spareDiary z0_guess z0_past z0_imageHill z0_imageRules z0_imageDiary v0, bX3 y a1 v1]) (kb := 1) (j := 0) F [1] (c_X3_houses l D y ek n a1 _ _ ht2) (cwV 0 F.1.2.2.2.2 (gV q2_179 q2_158 q2_159 q1_3 q2_160) rfl rfl rfl (by decide +kernel) ⟨Nat.le_of_ble_eq_true rfl, Nat.le_of_ble_eq_true rfl⟩) rfl rfl rfl rfl (by decide) rfl rfl rfl rfl rfl rfl (Nat.le_of_ble_eq_true rfl) ⟨Nat.zero_le _, Nat.zero_le _⟩ dX11_match_16 ?_
    refine a_ishl (pc := 19) F dX11_match_19 ?_
    refine a_iconst (pc := 20) F dX11_match_20 kc_1 ?_
    refine a_isub (pc := 21) F dX11_match_21 ?_
    refine a_iand (pc := 22) F dX11_match_22 ?_
    obtain ⟨x3_3, ex3_3, hf⟩ := nm_some hf
    refine a_nmi ex3_3 ?_
    refine a_istoren (pc := 23) (lv' := [(0, .ref (a0 0)), (1, .int x1), (2, .int x2), (3, .int x3_3)]) F [1, 2, 3, 0] dX11_match_23 rfl (by decide) rfl ?_
    refine a_iloadn (pc := 24) (j := 3) F dX11_match_24 rfl rfl ?_
    obtain ⟨t4, ht4, hf⟩ := bd_some hf
    refine a_callS (pc := 25) (bs' := [bX11 y a0 z0_tape z0_tokens z0_hillReader z0_lawReader (a1 0) z0_rules z0_diary z0_spare z0_draft z0_spareDiary z0_guess z0_past z0_imageHill z0_imageRules z0_imageDiary v0, bX3 y a1 v1]) F [] (c_J6_bitCount_0f7a4 l D y ek n  _ _ ht4) (va_cwS 1 F.1.2.2.2.2 (gS q5_135 q5_100 q1_26 q5_101) rfl rfl rfl (by decide +kernel) ⟨Nat.le_of_ble_eq_true rfl, Nat.le_of_ble_eq_true rfl⟩) (by decide) rfl rfl rfl rfl rfl rfl (Nat.le_of_ble_eq_true rfl) ⟨Nat.zero_le _, Nat.zero_le _⟩ dX11_match_25 ?_
    refine a_istore (pc := 28) (lv' := [(0, .ref (a0 0)), (1, .int x1), (2, .int x2), (3, .int x3_3), (4, .int t4)]) F [1, 2, 3, 4, 0] dX11_match_28 (by decide) rfl ?_
    refine a_iload (pc := 30) (j := 4) F dX11_match_30 rfl ?_
    refine a_iconst (pc := 32) F dX11_match_32 kc_2 ?_
    refine a_irem (pc := 33) F dX11_match_33 (by decide) ?_
    refine a_if_ne (pc := 34) (tgt := 44) F dX11_match_34 (by decide) (fun h => ?_) (fun h => ?_)
    · replace hf := it_neg h hf
      refine a_iconst (pc := 44) F dX11_match_44 kc_m1 ?_
      obtain rfl := Sum.inl.inj (Option.some.inj hf)
      exact hret _ _ _ _ (Nat.zero_le _) (Nat.zero_le _) rfl dX11_match_45
    · replace hf := it_pos h hf
      refine a_iload (pc := 37) (j := 4) F dX11_match_37 rfl ?_
      refine a_bipush (pc := 39) F dX11_match_39 kb_8 ?_
      refine a_icmp_le (pc := 41) (tgt := 46) F dX11_match_41 (by decide) (fun h => ?_) (fun h => ?_)
      · replace hf := it_pos h hf
        refine a_iloadn (pc := 46) (j := 2) F dX11_match_46 rfl rfl ?_
        refine a_iconst (pc := 47) F dX11_match_47 kc_m1 ?_
        refine a_icmp_ne (pc := 48) (tgt := 65) F dX11_match_48 (by decide) (fun h => ?_) (fun h => ?_)
        · replace hf := it_neg h hf
          refine a_aloadn (pc := 65) (j := 0) F dX11_match_65 rfl rfl ?_
          refine a_get (pc := 66) (kb := 0) (j := 0) (f := 7) F iW_X11 rfl rfl rfl (by decide) (tl q2_63) (fun _ h => h) rfl dX11_match_66 ?_
          refine a_get (pc := 69) (kb := 1) (j := 0) (f := 18) F iW_X3 rfl rfl rfl (by decide) (tl q1_118) (fun _ h => h) rfl dX11_match_69 ?_
          refine a_iloadn (pc := 72) (j := 3) F dX11_match_72 rfl rfl ?_
          refine a_iloadn (pc := 73) (j := 2) F dX11_match_73 rfl rfl ?_
          obtain ⟨t5, ht5, hf⟩ := bd_some hf
          refine a_perm (bs' := [bX11 y a0 z0_tape z0_tokens z0_hillReader z0_lawReader (a1 0) z0_rules z0_diary z0_spare z0_draft z0_spareDiary z0_guess z0_past z0_imageHill z0_imageRules z0_imageDiary v0, bX3r y a1 v1, bAI10 y (fun _ => a1 19) (fun _ => v1 18)]) (pm_split (k := 1) rfl ld_split) ?_
          refine a_callS (pc := 74) (bs' := [bX11 y a0 z0_tape z0_tokens z0_hillReader z0_lawReader (a1 0) z0_rules z0_diary z0_spare z0_draft z0_spareDiary z0_guess z0_past z0_imageHill z0_imageRules z0_imageDiary v0, bX3r y a1 v1, bAI10 y (fun _ => a1 19) (fun _ => v1 18)]) F [2] (c_X7_partnerOf l D y ek n (fun _ => a1 19) (fun _ => v1 18) _ _ _ ht5) (va_cwS 3 F.1.2.2.2.2 (gS q5_147 q5_148 q1_28 q5_149) rfl rfl rfl (by decide +kernel) ⟨Nat.le_of_ble_eq_true rfl, Nat.le_of_ble_eq_true rfl⟩) (by decide) rfl rfl rfl rfl rfl rfl (Nat.le_of_ble_eq_true rfl) ⟨Nat.zero_le _, Nat.zero_le _⟩ dX11_match_74 ?_
          refine a_perm (bs' := [bX11 y a0 z0_tape z0_tokens z0_hillReader z0_lawReader (a1 0) z0_rules z0_diary z0_spare z0_draft z0_spareDiary z0_guess z0_past z0_imageHill z0_imageRules z0_imageDiary v0, bX3 y a1 v1]) (pm_split (bs := [bX11 y a0 z0_tape z0_tokens z0_hillReader z0_lawReader (a1 0) z0_rules z0_diary z0_spare z0_draft z0_spareDiary z0_guess z0_past z0_imageHill z0_imageRules z0_imageDiary v0, bX3 y a1 v1]) (k := 1) rfl ld_split).symm ?_
          obtain rfl := Sum.inl.inj (Option.some.inj hf)
          exact hret _ _ _ _ (Nat.zero_le _) (Nat.zero_le _) rfl dX11_match_77
        · replace hf := it_pos h hf
          refine a_aloadn (pc := 51) (j := 0) F dX11_match_51 rfl rfl ?_
          refine a_get (pc := 52) (kb := 0) (j := 0) (f := 7) F iW_X11 rfl rfl rfl (by decide) (tl q2_63) (fun _ h => h) rfl dX11_match_52 ?_
          refine a_get (pc := 55) (kb := 1) (j := 0) (f := 18) F iW_X3 rfl rfl rfl (by decide) (tl q1_118) (fun _ h => h) rfl dX11_match_55 ?_
          refine a_iloadn (pc := 58) (j := 3) F dX11_match_58 rfl rfl ?_
          obtain ⟨t6, ht6, hf⟩ := bd_some hf
          refine a_perm (bs' := [bX11 y a0 z0_tape z0_tokens z0_hillReader z0_lawReader (a1 0) z0_rules z0_diary z0_spare z0_draft z0_spareDiary z0_guess z0_past z0_imageHill z0_imageRules z0_imageDiary v0, bX3r y a1 v1, bAI10 y (fun _ => a1 19) (fun _ => v1 18)]) (pm_split (k := 1) rfl ld_split) ?_
          refine a_callS (pc := 59) (bs' := [bX11 y a0 z0_tape z0_tokens z0_hillReader z0_lawReader (a1 0) z0_rules z0_diary z0_spare z0_draft z0_spareDiary z0_guess z0_past z0_imageHill z0_imageRules z0_imageDiary v0, bX3r y a1 v1, bAI10 y (fun _ => a1 19) (fun _ => v1 18)]) F [2] (c_X7_howMuch l D y ek n (fun _ => a1 19) (fun _ => v1 18) _ _ ht6) (va_cwS 2 F.1.2.2.2.2 (gS q5_136 q5_137 q1_28 q5_138) rfl rfl rfl (by decide +kernel) ⟨Nat.le_of_ble_eq_true rfl, Nat.le_of_ble_eq_true rfl⟩) (by decide) rfl rfl rfl rfl rfl rfl (Nat.le_of_ble_eq_true rfl) ⟨Nat.zero_le _, Nat.zero_le _⟩ dX11_match_59 ?_
          refine a_perm (bs' := [bX11 y a0 z0_tape z0_tokens z0_hillReader z0_lawReader (a1 0) z0_rules z0_diary z0_spare z0_draft z0_spareDiary z0_guess z0_past z0_imageHill z0_imageRules z0_imageDiary v0, bX3 y a1 v1]) (pm_split (bs := [bX11 y a0 z0_tape z0_tokens z0_hillReader z0_lawReader (a1 0) z0_rules z0_diary z0_spare z0_draft z0_spareDiary z0_guess z0_past z0_imageHill z0_imageRules z0_imageDiary v0, bX3 y a1 v1]) (k := 1) rfl ld_split).symm ?_
          refine a_goto (pc := 62) (tgt := 77) F dX11_match_62 (by decide) ?_
          obtain rfl := Sum.inl.inj (Option.some.inj hf)
          exact hret _ _ _ _ (Nat.zero_le _) (Nat.zero_le _) rfl dX11_match_77
      · replace hf := it_neg h hf
        refine a_iconst (pc := 44) F dX11_match_44 kc_m1 ?_
        obtain rfl := Sum.inl.inj (Option.some.inj hf)
        exact hret _ _ _ _ (Nat.zero_le _) (Nat.zero_le _) rfl dX11_match_45
  · try dsimp only at hf
    refine a_icmp_eq (pc := 2) (tgt := 10) F dX11_match_2 (by decide) (fun h => ?_) (fun h => ?_)
    · replace hf := it_pos h hf
      exact hK1 () hf
    · replace hf := it_neg h hf
      refine a_aloadn (pc := 5) (j := 0) F dX11_match_5 rfl rfl ?_
      refine a_iloadn (pc := 6) (j := 2) F dX11_match_6 rfl rfl ?_
      obtain ⟨t7, ht7a, hf⟩ := bd_some hf
      rcases t7 with t7a | t7x
      · replace hf := sm_inl hf
        refine a_callVv (pc := 7) (bs' := [bX11 y a0 z0_tape z0_tokens z0_hillReader z0_lawReader (a1 0) z0_rules z0_diary z0_spare z0_draft z0_spareDiary z0_guess z0_past z0_imageHill z0_imageRules z0_imageDiary v0, bX3 y a1 v1]) (kb := 0) (j := 0) F [0, 1] (c_X11_checkHouse l D y ek n a0 a1 z0_tape z0_tokens z0_hillReader z0_lawReader z0_rules z0_diary z0_spare z0_draft z0_spareDiary z0_guess z0_past z0_imageHill z0_imageRules z0_imageDiary _ _ _ _ ht7a) (cwV 1 F.1.2.2.2.2 (gV q4_199 q4_201 qs_18 q1_1 q4_202) rfl rfl rfl (by decide +kernel) ⟨Nat.le_of_ble_eq_true rfl, Nat.le_of_ble_eq_true rfl⟩) rfl rfl rfl rfl (by decide) rfl rfl rfl rfl rfl rfl (Nat.le_of_ble_eq_true rfl) ⟨Nat.zero_le _, Nat.zero_le _⟩ dX11_match_7 ?_
        exact hK1 () hf
      · replace hf := sm_inr hf
        exact absurd hf (by simp)
set_option maxHeartbeats 4000000 in
set_option maxRecDepth 100000 in
theorem x_X11_match (l : Launch) (hlt : l.stackTraces = false) (D : va_G) (y : Nat → ClassId) (ek : EK) (n : Nat) (a0 : Nat → Nat) (a1 : Nat → Nat) (z0_tape : Nat) (z0_tokens : Nat) (z0_hillReader : Nat) (z0_lawReader : Nat) (z0_rules : Nat) (z0_diary : Nat) (z0_spare : Nat) (z0_draft : Nat) (z0_spareDiary : Nat) (z0_guess : Nat) (z0_past : Nat) (z0_imageHill : Nat) (z0_imageRules : Nat) (z0_imageDiary : Nat) (v0 : St) (v1 : St) (x1 : Int32) (x2 : Int32) (res : Nat) (hf : m_X11_match n v0 v1 x1 x2 = some (Sum.inr res)) : CX l yX11_match wX11_match { frames := 68, cells := 1, slots := 6, locals := 1892 } D y ek [.ref (a0 0), .int x1, .int x2] [bX11 y a0 z0_tape z0_tokens z0_hillReader z0_lawReader (a1 0) z0_rules z0_diary z0_spare z0_draft z0_spareDiary z0_guess z0_past z0_imageHill z0_imageRules z0_imageDiary v0, bX3 y a1 v1] (eX.getD res "") [bX11 y a0 z0_tape z0_tokens z0_hillReader z0_lawReader (a1 0) z0_rules z0_diary z0_spare z0_draft z0_spareDiary z0_guess z0_past z0_imageHill z0_imageRules z0_imageDiary v0, bX3 y a1 v1] 1 6 := by
  unfold m_X11_match at hf
  refine cx_of (cc := cX11_match) (maxL := 5) hlt (by decide) rfl (Nat.le_of_ble_eq_true rfl) (Nat.le_refl 1) (Nat.le_refl 6) ?_
  intro p e s m below meth c Q A F hthr hout
  refine a_lv (lv' := [(0, .ref (a0 0)), (1, .int x1), (2, .int x2)]) rfl ?_
  refine a_iloadn (pc := 0) (j := 2) F dX11_match_0 rfl rfl ?_
  refine a_iconst (pc := 1) F dX11_match_1 kc_m1 ?_
  refine a_jn 10 (fun (t1 : Unit) => [(0, .ref (a0 0)), (1, .int x1), (2, .int x2)]) (fun (t1 : Unit) => []) (fun (t1 : Unit) => [bX11 y a0 z0_tape z0_tokens z0_hillReader z0_lawReader (a1 0) z0_rules z0_diary z0_spare z0_draft z0_spareDiary z0_guess z0_past z0_imageHill z0_imageRules z0_imageDiary v0, bX3 y a1 v1]) hf (fun t1 hf => ?_) (fun K1 hK1 hf => ?_)
  · try dsimp only at hf ⊢
    refine a_iloadn (pc := 10) (j := 1) F dX11_match_10 rfl rfl ?_
    refine a_iconst (pc := 11) F dX11_match_11 kc_1 ?_
    refine a_aloadn (pc := 12) (j := 0) F dX11_match_12 rfl rfl ?_
    refine a_get (pc := 13) (kb := 0) (j := 0) (f := 7) F iW_X11 rfl rfl rfl (by decide) (tl q2_63) (fun _ h => h) rfl dX11_match_13 ?_
    obtain ⟨t2, ht2, hf⟩ := bd_some hf
    refine a_callV (pc := 16) (bs' := [bX11 y a0 z0_tape z0_tokens z0_hillReader z0_lawReader (a1 0) z0_rules z0_diary z0_spare z0_draft z0_spareDiary z0_guess z0_past z0_imageHill z0_imageRules z0_imageDiary v0, bX3 y a1 v1]) (kb := 1) (j := 0) F [1] (c_X3_houses l D y ek n a1 _ _ ht2) (cwV 0 F.1.2.2.2.2 (gV q2_179 q2_158 q2_159 q1_3 q2_160) rfl rfl rfl (by decide +kernel) ⟨Nat.le_of_ble_eq_true rfl, Nat.le_of_ble_eq_true rfl⟩) rfl rfl rfl rfl (by decide) rfl rfl rfl rfl rfl rfl (Nat.le_of_ble_eq_true rfl) ⟨Nat.zero_le _, Nat.zero_le _⟩ dX11_match_16 ?_
    refine a_ishl (pc := 19) F dX11_match_19 ?_
    refine a_iconst (pc := 20) F dX11_match_20 kc_1 ?_
    refine a_isub (pc := 21) F dX11_match_21 ?_
    refine a_iand (pc := 22) F dX11_match_22 ?_
    obtain ⟨x3_3, ex3_3, hf⟩ := nm_some hf
    refine a_nmi ex3_3 ?_
    refine a_istoren (pc := 23) (lv' := [(0, .ref (a0 0)), (1, .int x1), (2, .int x2), (3, .int x3_3)]) F [1, 2, 3, 0] dX11_match_23 rfl (by decide) rfl ?_
    refine a_iloadn (pc := 24) (j := 3) F dX11_match_24 rfl rfl ?_
    obtain ⟨t4, ht4, hf⟩ := bd_some hf
    refine a_callS (pc := 25) (bs' := [bX11 y a0 z0_tape z0_tokens z0_hillReader z0_lawReader (a1 0) z0_rules z0_diary z0_spare z0_draft z0_spareDiary z0_guess z0_past z0_imageHill z0_imageRules z0_imageDiary v0, bX3 y a1 v1]) F [] (c_J6_bitCount_0f7a4 l D y ek n  _ _ ht4) (va_cwS 1 F.1.2.2.2.2 (gS q5_135 q5_100 q1_26 q5_101) rfl rfl rfl (by decide +kernel) ⟨Nat.le_of_ble_eq_true rfl, Nat.le_of_ble_eq_true rfl⟩) (by decide) rfl rfl rfl rfl rfl rfl (Nat.le_of_ble_eq_true rfl) ⟨Nat.zero_le _, Nat.zero_le _⟩ dX11_match_25 ?_
    refine a_istore (pc := 28) (lv' := [(0, .ref (a0 0)), (1, .int x1), (2, .int x2), (3, .int x3_3), (4, .int t4)]) F [1, 2, 3, 4, 0] dX11_match_28 (by decide) rfl ?_
    refine a_iload (pc := 30) (j := 4) F dX11_match_30 rfl ?_
    refine a_iconst (pc := 32) F dX11_match_32 kc_2 ?_
    refine a_irem (pc := 33) F dX11_match_33 (by decide) ?_
    refine a_if_ne (pc := 34) (tgt := 44) F dX11_match_34 (by decide) (fun h => ?_) (fun h => ?_)
    · replace hf := it_neg h hf
      refine a_iconst (pc := 44) F dX11_match_44 kc_m1 ?_
      exact absurd hf (by simp)
    · replace hf := it_pos h hf
      refine a_iload (pc := 37) (j := 4) F dX11_match_37 rfl ?_
      refine a_bipush (pc := 39) F dX11_match_39 kb_8 ?_
      refine a_icmp_le (pc := 41) (tgt := 46) F dX11_match_41 (by decide) (fun h => ?_) (fun h => ?_)
      · replace hf := it_pos h hf
        refine a_iloadn (pc := 46) (j := 2) F dX11_match_46 rfl rfl ?_
        refine a_iconst (pc := 47) F dX11_match_47 kc_m1 ?_
        refine a_icmp_ne (pc := 48) (tgt := 65) F dX11_match_48 (by decide) (fun h => ?_) (fun h => ?_)
        · replace hf := it_neg h hf
          refine a_aloadn (pc := 65) (j := 0) F dX11_match_65 rfl rfl ?_
          refine a_get (pc := 66) (kb := 0) (j := 0) (f := 7) F iW_X11 rfl rfl rfl (by decide) (tl q2_63) (fun _ h => h) rfl dX11_match_66 ?_
          refine a_get (pc := 69) (kb := 1) (j := 0) (f := 18) F iW_X3 rfl rfl rfl (by decide) (tl q1_118) (fun _ h => h) rfl dX11_match_69 ?_
          refine a_iloadn (pc := 72) (j := 3) F dX11_match_72 rfl rfl ?_
          refine a_iloadn (pc := 73) (j := 2) F dX11_match_73 rfl rfl ?_
          obtain ⟨t5, ht5, hf⟩ := bd_some hf
          refine a_perm (bs' := [bX11 y a0 z0_tape z0_tokens z0_hillReader z0_lawReader (a1 0) z0_rules z0_diary z0_spare z0_draft z0_spareDiary z0_guess z0_past z0_imageHill z0_imageRules z0_imageDiary v0, bX3r y a1 v1, bAI10 y (fun _ => a1 19) (fun _ => v1 18)]) (pm_split (k := 1) rfl ld_split) ?_
          refine a_callS (pc := 74) (bs' := [bX11 y a0 z0_tape z0_tokens z0_hillReader z0_lawReader (a1 0) z0_rules z0_diary z0_spare z0_draft z0_spareDiary z0_guess z0_past z0_imageHill z0_imageRules z0_imageDiary v0, bX3r y a1 v1, bAI10 y (fun _ => a1 19) (fun _ => v1 18)]) F [2] (c_X7_partnerOf l D y ek n (fun _ => a1 19) (fun _ => v1 18) _ _ _ ht5) (va_cwS 3 F.1.2.2.2.2 (gS q5_147 q5_148 q1_28 q5_149) rfl rfl rfl (by decide +kernel) ⟨Nat.le_of_ble_eq_true rfl, Nat.le_of_ble_eq_true rfl⟩) (by decide) rfl rfl rfl rfl rfl rfl (Nat.le_of_ble_eq_true rfl) ⟨Nat.zero_le _, Nat.zero_le _⟩ dX11_match_74 ?_
          refine a_perm (bs' := [bX11 y a0 z0_tape z0_tokens z0_hillReader z0_lawReader (a1 0) z0_rules z0_diary z0_spare z0_draft z0_spareDiary z0_guess z0_past z0_imageHill z0_imageRules z0_imageDiary v0, bX3 y a1 v1]) (pm_split (bs := [bX11 y a0 z0_tape z0_tokens z0_hillReader z0_lawReader (a1 0) z0_rules z0_diary z0_spare z0_draft z0_spareDiary z0_guess z0_past z0_imageHill z0_imageRules z0_imageDiary v0, bX3 y a1 v1]) (k := 1) rfl ld_split).symm ?_
          exact absurd hf (by simp)
        · replace hf := it_pos h hf
          refine a_aloadn (pc := 51) (j := 0) F dX11_match_51 rfl rfl ?_
          refine a_get (pc := 52) (kb := 0) (j := 0) (f := 7) F iW_X11 rfl rfl rfl (by decide) (tl q2_63) (fun _ h => h) rfl dX11_match_52 ?_
          refine a_get (pc := 55) (kb := 1) (j := 0) (f := 18) F iW_X3 rfl rfl rfl (by decide) (tl q1_118) (fun _ h => h) rfl dX11_match_55 ?_
          refine a_iloadn (pc := 58) (j := 3) F dX11_match_58 rfl rfl ?_
          obtain ⟨t6, ht6, hf⟩ := bd_some hf
          refine a_perm (bs' := [bX11 y a0 z0_tape z0_tokens z0_hillReader z0_lawReader (a1 0) z0_rules z0_diary z0_spare z0_draft z0_spareDiary z0_guess z0_past z0_imageHill z0_imageRules z0_imageDiary v0, bX3r y a1 v1, bAI10 y (fun _ => a1 19) (fun _ => v1 18)]) (pm_split (k := 1) rfl ld_split) ?_
          refine a_callS (pc := 59) (bs' := [bX11 y a0 z0_tape z0_tokens z0_hillReader z0_lawReader (a1 0) z0_rules z0_diary z0_spare z0_draft z0_spareDiary z0_guess z0_past z0_imageHill z0_imageRules z0_imageDiary v0, bX3r y a1 v1, bAI10 y (fun _ => a1 19) (fun _ => v1 18)]) F [2] (c_X7_howMuch l D y ek n (fun _ => a1 19) (fun _ => v1 18) _ _ ht6) (va_cwS 2 F.1.2.2.2.2 (gS q5_136 q5_137 q1_28 q5_138) rfl rfl rfl (by decide +kernel) ⟨Nat.le_of_ble_eq_true rfl, Nat.le_of_ble_eq_true rfl⟩) (by decide) rfl rfl rfl rfl rfl rfl (Nat.le_of_ble_eq_true rfl) ⟨Nat.zero_le _, Nat.zero_le _⟩ dX11_match_59 ?_
          refine a_perm (bs' := [bX11 y a0 z0_tape z0_tokens z0_hillReader z0_lawReader (a1 0) z0_rules z0_diary z0_spare z0_draft z0_spareDiary z0_guess z0_past z0_imageHill z0_imageRules z0_imageDiary v0, bX3 y a1 v1]) (pm_split (bs := [bX11 y a0 z0_tape z0_tokens z0_hillReader z0_lawReader (a1 0) z0_rules z0_diary z0_spare z0_draft z0_spareDiary z0_guess z0_past z0_imageHill z0_imageRules z0_imageDiary v0, bX3 y a1 v1]) (k := 1) rfl ld_split).symm ?_
          refine a_goto (pc := 62) (tgt := 77) F dX11_match_62 (by decide) ?_
          exact absurd hf (by simp)
      · replace hf := it_neg h hf
        refine a_iconst (pc := 44) F dX11_match_44 kc_m1 ?_
        exact absurd hf (by simp)
  · try dsimp only at hf
    refine a_icmp_eq (pc := 2) (tgt := 10) F dX11_match_2 (by decide) (fun h => ?_) (fun h => ?_)
    · replace hf := it_pos h hf
      exact hK1 () hf
    · replace hf := it_neg h hf
      refine a_aloadn (pc := 5) (j := 0) F dX11_match_5 rfl rfl ?_
      refine a_iloadn (pc := 6) (j := 2) F dX11_match_6 rfl rfl ?_
      obtain ⟨t7, ht7a, hf⟩ := bd_some hf
      rcases t7 with t7a | t7x
      · replace hf := sm_inl hf
        refine a_callVv (pc := 7) (bs' := [bX11 y a0 z0_tape z0_tokens z0_hillReader z0_lawReader (a1 0) z0_rules z0_diary z0_spare z0_draft z0_spareDiary z0_guess z0_past z0_imageHill z0_imageRules z0_imageDiary v0, bX3 y a1 v1]) (kb := 0) (j := 0) F [0, 1] (c_X11_checkHouse l D y ek n a0 a1 z0_tape z0_tokens z0_hillReader z0_lawReader z0_rules z0_diary z0_spare z0_draft z0_spareDiary z0_guess z0_past z0_imageHill z0_imageRules z0_imageDiary _ _ _ _ ht7a) (cwV 1 F.1.2.2.2.2 (gV q4_199 q4_201 qs_18 q1_1 q4_202) rfl rfl rfl (by decide +kernel) ⟨Nat.le_of_ble_eq_true rfl, Nat.le_of_ble_eq_true rfl⟩) rfl rfl rfl rfl (by decide) rfl rfl rfl rfl rfl rfl (Nat.le_of_ble_eq_true rfl) ⟨Nat.zero_le _, Nat.zero_le _⟩ dX11_match_7 ?_
        exact hK1 () hf
      · replace hf := sm_inr hf
        obtain rfl := Sum.inr.inj (Option.some.inj hf)
        exact a_callVx (pc := 7) (bs' := [bX11 y a0 z0_tape z0_tokens z0_hillReader z0_lawReader (a1 0) z0_rules z0_diary z0_spare z0_draft z0_spareDiary z0_guess z0_past z0_imageHill z0_imageRules z0_imageDiary v0, bX3 y a1 v1]) (kb := 0) (j := 0) F [0, 1] (x_X11_checkHouse l hlt D y ek n a0 a1 z0_tape z0_tokens z0_hillReader z0_lawReader z0_rules z0_diary z0_spare z0_draft z0_spareDiary z0_guess z0_past z0_imageHill z0_imageRules z0_imageDiary _ _ _ _ ht7a) (cwV 1 F.1.2.2.2.2 (gV q4_199 q4_201 qs_18 q1_1 q4_202) rfl rfl rfl (by decide +kernel) ⟨Nat.le_of_ble_eq_true rfl, Nat.le_of_ble_eq_true rfl⟩) rfl rfl rfl rfl (by decide) rfl rfl rfl rfl rfl rfl (Nat.le_of_ble_eq_true rfl) ⟨Nat.le_of_ble_eq_true rfl, Nat.le_of_ble_eq_true rfl⟩ dX11_match_7 (fun H1 locs1 ls q9 ce h1 h2 h3 h4 h5 h6 h7 => hout H1 locs1 ls _ _ _ _ q9 ce h1 h2 h3 (Nat.le_of_ble_eq_true rfl) (Nat.le_of_ble_eq_true rfl) h5 h6 h7)
