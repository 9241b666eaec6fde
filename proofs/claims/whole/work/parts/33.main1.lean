abbrev wX11_putBytes : List Cond := Cond.code yX11_putBytes cX11_putBytes 3 none :: WALL
def m_X11_putBytes (n : Nat) (v0 : St) (v1 : St) (x1 : Int32) : Option (St × St) :=
bd (lp (fun (rc2 : Int32 × St × St → Option (St × St)) (x2l : Int32 × St × St) =>
(if x2l.1 < 0 then
some (x2l.2.1, x2l.2.2)
else
(if 400 ≤ (x2l.2.1 1 0) then
some (x2l.2.1, x2l.2.2)
else
(if ix (x2l.2.1 1 0) 400 then nm (su x2l.2.2 0 ((x2l.2.1 1 0)).toNatClampNeg (yb (x_i2b (x_ushr x1 x2l.1)))) (fun u4 =>
nm (su x2l.2.1 1 0 ((x2l.2.1 1 0) + 1)) (fun u5 =>
rc2 ((x2l.1 + (-8)), u5, u4))) else none)))) n (24, v0, v1)) (fun (t1 : St × St) =>
some (t1.1, t1.2))
set_option maxHeartbeats 4000000 in
set_option maxRecDepth 100000 in
theorem c_X11_putBytes (l : Launch) (D : va_G) (y : Nat → ClassId) (ek : EK) (n : Nat) (a0 : Nat → Nat) (a1 : Nat → Nat) (z0_tokens : Nat) (z0_hillReader : Nat) (z0_lawReader : Nat) (z0_now : Nat) (z0_rules : Nat) (z0_diary : Nat) (z0_spare : Nat) (z0_draft : Nat) (z0_spareDiary : Nat) (z0_guess : Nat) (z0_past : Nat) (z0_imageHill : Nat) (z0_imageRules : Nat) (z0_imageDiary : Nat) (v0 : St) (v1 : St) (x1 : Int32) (res : St × St) (hf : m_X11_putBytes n v0 v1 x1 = some res) : CV l yX11_putBytes wX11_putBytes { frames := 0, cells := 0, slots := 0, locals := 0 } D y ek [.ref (a0 0), .int x1] [bX11 y a0 (a1 0) z0_tokens z0_hillReader z0_lawReader z0_now z0_rules z0_diary z0_spare z0_draft z0_spareDiary z0_guess z0_past z0_imageHill z0_imageRules z0_imageDiary v0, bAB400 y a1 v1] [bX11 y a0 (a1 0) z0_tokens z0_hillReader z0_lawReader z0_now z0_rules z0_diary z0_spare z0_draft z0_spareDiary z0_guess z0_past z0_imageHill z0_imageRules z0_imageDiary res.1, bAB400 y a1 res.2] 0 0 := by
  unfold m_X11_putBytes at hf
  refine cv_of (cc := cX11_putBytes) (maxL := 3) (by decide) rfl rfl (Nat.le_of_ble_eq_true rfl) ?_
  intro p e s m below meth c Q A F hret
  refine a_lv (lv' := [(0, .ref (a0 0)), (1, .int x1)]) rfl ?_
  refine a_bipush (pc := 0) F dX11_putBytes_0 kb_24 ?_
  refine a_istoren (pc := 2) (lv' := [(0, .ref (a0 0)), (1, .int x1), (2, .int 24)]) F [1, 2, 0] dX11_putBytes_2 rfl (by decide) rfl ?_
  refine a_join 46 (fun (t1 : St × St) => []) (fun (t1 : St × St) => []) (fun (t1 : St × St) => [bX11 y a0 (a1 0) z0_tokens z0_hillReader z0_lawReader z0_now z0_rules z0_diary z0_spare z0_draft z0_spareDiary z0_guess z0_past z0_imageHill z0_imageRules z0_imageDiary t1.1, bAB400 y a1 t1.2]) hf (fun t1 hf => ?_) (fun t1 hf J1 => ?_)
  · try dsimp only at hf ⊢
    obtain rfl := Option.some.inj hf
    exact hret _ _ _ _ (Nat.zero_le _) (Nat.zero_le _) dX11_putBytes_46
  · refine a_loop 3 (fun (x2l : Int32 × St × St) => [(0, .ref (a0 0)), (1, .int x1), (2, .int x2l.1)]) (fun (x2l : Int32 × St × St) => [bX11 y a0 (a1 0) z0_tokens z0_hillReader z0_lawReader z0_now z0_rules z0_diary z0_spare z0_draft z0_spareDiary z0_guess z0_past z0_imageHill z0_imageRules z0_imageDiary x2l.2.1, bAB400 y a1 x2l.2.2]) (fun rc2 x2l ih2 hf => ?_) hf rfl rfl
    try dsimp only at hf ⊢
    refine a_iloadn (pc := 3) (j := 2) F dX11_putBytes_3 rfl rfl ?_
    refine a_if_lt (pc := 4) (tgt := 46) F dX11_putBytes_4 (by decide) (fun h => ?_) (fun h => ?_)
    · replace hf := it_pos h hf
      refine a_sub [] rfl ?_
      obtain rfl := Option.some.inj hf
      exact J1
    · replace hf := it_neg h hf
      refine a_aloadn (pc := 7) (j := 0) F dX11_putBytes_7 rfl rfl ?_
      refine a_get (pc := 8) (kb := 0) (j := 0) (f := 1) F iW_X11 rfl rfl rfl (by decide) (tl q2_57) (fun _ h => h) rfl dX11_putBytes_8 ?_
      refine a_sipush (pc := 11) F dX11_putBytes_11 ks_400 ?_
      refine a_icmp_ge (pc := 14) (tgt := 46) F dX11_putBytes_14 (by decide) (fun h => ?_) (fun h => ?_)
      · replace hf := it_pos h hf
        refine a_sub [] rfl ?_
        obtain rfl := Option.some.inj hf
        exact J1
      · replace hf := it_neg h hf
        refine a_aloadn (pc := 17) (j := 0) F dX11_putBytes_17 rfl rfl ?_
        refine a_get (pc := 18) (kb := 0) (j := 0) (f := 0) F iW_X11 rfl rfl rfl (by decide) (tl q2_56) (fun _ h => h) rfl dX11_putBytes_18 ?_
        refine a_aloadn (pc := 21) (j := 0) F dX11_putBytes_21 rfl rfl ?_
        refine a_get (pc := 22) (kb := 0) (j := 0) (f := 1) F iW_X11 rfl rfl rfl (by decide) (tl q2_57) (fun _ h => h) rfl dX11_putBytes_22 ?_
        refine a_iloadn (pc := 25) (j := 1) F dX11_putBytes_25 rfl rfl ?_
        refine a_iloadn (pc := 26) (j := 2) F dX11_putBytes_26 rfl rfl ?_
        refine a_iushr (pc := 27) F dX11_putBytes_27 ?_
        refine a_i2b (pc := 28) F dX11_putBytes_28 ?_
        obtain ⟨h3, hf⟩ := gd_some hf
        obtain ⟨u4, eu4, hf⟩ := nm_some hf
        refine a_bast (pc := 29) (kb := 1) (j := 0) (bs' := [bX11 y a0 (a1 0) z0_tokens z0_hillReader z0_lawReader z0_now z0_rules z0_diary z0_spare z0_draft z0_spareDiary z0_guess z0_past z0_imageHill z0_imageRules z0_imageDiary x2l.2.1, bAB400 y a1 u4]) F rfl rfl h3 (by rw [eu4]; rfl) dX11_putBytes_29 ?_
        refine a_aloadn (pc := 30) (j := 0) F dX11_putBytes_30 rfl rfl ?_
        refine a_dup (pc := 31) F dX11_putBytes_31 rfl ?_
        refine a_get (pc := 32) (kb := 0) (j := 0) (f := 1) F iW_X11 rfl rfl rfl (by decide) (tl q2_57) (fun _ h => h) rfl dX11_putBytes_32 ?_
        refine a_iconst (pc := 35) F dX11_putBytes_35 kc_1 ?_
        refine a_iadd (pc := 36) F dX11_putBytes_36 ?_
        obtain ⟨u5, eu5, hf⟩ := nm_some hf
        refine a_put (pc := 37) (kb := 0) (j := 0) (f := 1) (ty := .int) (bs' := [bX11 y a0 (a1 0) z0_tokens z0_hillReader z0_lawReader z0_now z0_rules z0_diary z0_spare z0_draft z0_spareDiary z0_guess z0_past z0_imageHill z0_imageRules z0_imageDiary u5, bAB400 y a1 u4]) F iW_X11 rfl rfl rfl (by decide) (tl q2_57) (fun _ h => h) tyX11 tyX11_ok nmX11 rfl rfl rfl rfl (Nat.le_of_ble_eq_true rfl) (by rw [eu5]; rfl) dX11_putBytes_37 ?_
        refine a_iinc (pc := 40) (j := 2) (v := (x2l.1 + (-8))) (lv' := [(0, .ref (a0 0)), (1, .int x1), (2, .int (x2l.1 + (-8)))]) F [1, 2, 0] dX11_putBytes_40 rfl ki_m8 (by decide) rfl ?_
        refine a_goto (pc := 43) (tgt := 3) F dX11_putBytes_43 (by decide) ?_
        exact ih2 ((x2l.1 + (-8)), u5, u4) hf

abbrev wX11_feed : List Cond := Cond.code yX11_feed cX11_feed 6 (some .int) :: WALL
def m_X11_feed (n : Nat) (v0 : St) (v1 : St) (x1 : Int32) (x2 : Int32) (x3 : Int32) (x4 : Int32) (x5 : Int32) : Option (Int32 × St × St) :=
(if ((v0 1 0) + 20) ≤ 400 then
bd (m_X11_putBytes n v0 v1 x1) (fun t1 =>
bd (m_X11_putBytes n t1.1 t1.2 x2) (fun t2 =>
bd (m_X11_putBytes n t2.1 t2.2 x3) (fun t3 =>
bd (m_X11_putBytes n t3.1 t3.2 x4) (fun t4 =>
bd (m_X11_putBytes n t4.1 t4.2 x5) (fun t5 =>
some ((t5.1 1 0), t5.1, t5.2))))))
else
some ((-1), v0, v1))
set_option maxHeartbeats 4000000 in
set_option maxRecDepth 100000 in
theorem c_X11_feed (l : Launch) (D : va_G) (y : Nat → ClassId) (ek : EK) (n : Nat) (a0 : Nat → Nat) (a1 : Nat → Nat) (z0_tokens : Nat) (z0_hillReader : Nat) (z0_lawReader : Nat) (z0_now : Nat) (z0_rules : Nat) (z0_diary : Nat) (z0_spare : Nat) (z0_draft : Nat) (z0_spareDiary : Nat) (z0_guess : Nat) (z0_past : Nat) (z0_imageHill : Nat) (z0_imageRules : Nat) (z0_imageDiary : Nat) (v0 : St) (v1 : St) (x1 : Int32) (x2 : Int32) (x3 : Int32) (x4 : Int32) (x5 : Int32) (res : Int32 × St × St) (hf : m_X11_feed n v0 v1 x1 x2 x3 x4 x5 = some res) : CI l yX11_feed wX11_feed { frames := 1, cells := 0, slots := 0, locals := 22 } D y ek [.ref (a0 0), .int x1, .int x2, .int x3, .int x4, .int x5] [bX11 y a0 (a1 0) z0_tokens z0_hillReader z0_lawReader z0_now z0_rules z0_diary z0_spare z0_draft z0_spareDiary z0_guess z0_past z0_imageHill z0_imageRules z0_imageDiary v0, bAB400 y a1 v1] (res.1) [bX11 y a0 (a1 0) z0_tokens z0_hillReader z0_lawReader z0_now z0_rules z0_diary z0_spare z0_draft z0_spareDiary z0_guess z0_past z0_imageHill z0_imageRules z0_imageDiary res.2.1, bAB400 y a1 res.2.2] 0 0 := by
  unfold m_X11_feed at hf
  refine ci_of (cc := cX11_feed) (maxL := 6) (by decide) rfl rfl (Nat.le_of_ble_eq_true rfl) ?_
  intro p e s m below meth c Q A F hret
  refine a_lv (lv' := [(0, .ref (a0 0)), (1, .int x1), (2, .int x2), (3, .int x3), (4, .int x4), (5, .int x5)]) rfl ?_
  refine a_aloadn (pc := 0) (j := 0) F dX11_feed_0 rfl rfl ?_
  refine a_get (pc := 1) (kb := 0) (j := 0) (f := 1) F iW_X11 rfl rfl rfl (by decide) (tl q2_57) (fun _ h => h) rfl dX11_feed_1 ?_
  refine a_bipush (pc := 4) F dX11_feed_4 kb_20 ?_
  refine a_iadd (pc := 6) F dX11_feed_6 ?_
  refine a_sipush (pc := 7) F dX11_feed_7 ks_400 ?_
  refine a_icmp_le (pc := 10) (tgt := 15) F dX11_feed_10 (by decide) (fun h => ?_) (fun h => ?_)
  · replace hf := it_pos h hf
    refine a_aloadn (pc := 15) (j := 0) F dX11_feed_15 rfl rfl ?_
    refine a_iloadn (pc := 16) (j := 1) F dX11_feed_16 rfl rfl ?_
    obtain ⟨t1, ht1, hf⟩ := bd_some hf
    refine a_callVv (pc := 17) (bs' := [bX11 y a0 (a1 0) z0_tokens z0_hillReader z0_lawReader z0_now z0_rules z0_diary z0_spare z0_draft z0_spareDiary z0_guess z0_past z0_imageHill z0_imageRules z0_imageDiary t1.1, bAB400 y a1 t1.2]) (kb := 0) (j := 0) F [0, 1] (c_X11_putBytes l D y ek n a0 a1 z0_tokens z0_hillReader z0_lawReader z0_now z0_rules z0_diary z0_spare z0_draft z0_spareDiary z0_guess z0_past z0_imageHill z0_imageRules z0_imageDiary _ _ _ _ ht1) (cwV 1 F.1.2.2.2.2 (gV q2_121 q2_123 qs_0 q1_1 q2_124) rfl rfl rfl (by decide +kernel) ⟨Nat.le_of_ble_eq_true rfl, Nat.le_of_ble_eq_true rfl⟩) rfl rfl rfl rfl (by decide) rfl rfl rfl rfl rfl rfl (Nat.le_of_ble_eq_true rfl) ⟨Nat.zero_le _, Nat.zero_le _⟩ dX11_feed_17 ?_
    refine a_aloadn (pc := 20) (j := 0) F dX11_feed_20 rfl rfl ?_
    refine a_iloadn (pc := 21) (j := 2) F dX11_feed_21 rfl rfl ?_
    obtain ⟨t2, ht2, hf⟩ := bd_some hf
    refine a_callVv (pc := 22) (bs' := [bX11 y a0 (a1 0) z0_tokens z0_hillReader z0_lawReader z0_now z0_rules z0_diary z0_spare z0_draft z0_spareDiary z0_guess z0_past z0_imageHill z0_imageRules z0_imageDiary t2.1, bAB400 y a1 t2.2]) (kb := 0) (j := 0) F [0, 1] (c_X11_putBytes l D y ek n a0 a1 z0_tokens z0_hillReader z0_lawReader z0_now z0_rules z0_diary z0_spare z0_draft z0_spareDiary z0_guess z0_past z0_imageHill z0_imageRules z0_imageDiary _ _ _ _ ht2) (cwV 1 F.1.2.2.2.2 (gV q2_121 q2_123 qs_0 q1_1 q2_124) rfl rfl rfl (by decide +kernel) ⟨Nat.le_of_ble_eq_true rfl, Nat.le_of_ble_eq_true rfl⟩) rfl rfl rfl rfl (by decide) rfl rfl rfl rfl rfl rfl (Nat.le_of_ble_eq_true rfl) ⟨Nat.zero_le _, Nat.zero_le _⟩ dX11_feed_22 ?_
    refine a_aloadn (pc := 25) (j := 0) F dX11_feed_25 rfl rfl ?_
    refine a_iloadn (pc := 26) (j := 3) F dX11_feed_26 rfl rfl ?_
    obtain ⟨t3, ht3, hf⟩ := bd_some hf
    refine a_callVv (pc := 27) (bs' := [bX11 y a0 (a1 0) z0_tokens z0_hillReader z0_lawReader z0_now z0_rules z0_diary z0_spare z0_draft z0_spareDiary z0_guess z0_past z0_imageHill z0_imageRules z0_imageDiary t3.1, bAB400 y a1 t3.2]) (kb := 0) (j := 0) F [0, 1] (c_X11_putBytes l D y ek n a0 a1 z0_tokens z0_hillReader z0_lawReader z0_now z0_rules z0_diary z0_spare z0_draft z0_spareDiary z0_guess z0_past z0_imageHill z0_imageRules z0_imageDiary _ _ _ _ ht3) (cwV 1 F.1.2.2.2.2 (gV q2_121 q2_123 qs_0 q1_1 q2_124) rfl rfl rfl (by decide +kernel) ⟨Nat.le_of_ble_eq_true rfl, Nat.le_of_ble_eq_true rfl⟩) rfl rfl rfl rfl (by decide) rfl rfl rfl rfl rfl rfl (Nat.le_of_ble_eq_true rfl) ⟨Nat.zero_le _, Nat.zero_le _⟩ dX11_feed_27 ?_
    refine a_aloadn (pc := 30) (j := 0) F dX11_feed_30 rfl rfl ?_
    refine a_iload (pc := 31) (j := 4) F dX11_feed_31 rfl ?_
    obtain ⟨t4, ht4, hf⟩ := bd_some hf
    refine a_callVv (pc := 33) (bs' := [bX11 y a0 (a1 0) z0_tokens z0_hillReader z0_lawReader z0_now z0_rules z0_diary z0_spare z0_draft z0_spareDiary z0_guess z0_past z0_imageHill z0_imageRules z0_imageDiary t4.1, bAB400 y a1 t4.2]) (kb := 0) (j := 0) F [0, 1] (c_X11_putBytes l D y ek n a0 a1 z0_tokens z0_hillReader z0_lawReader z0_now z0_rules z0_diary z0_spare z0_draft z0_spareDiary z0_guess z0_past z0_imageHill z0_imageRules z0_imageDiary _ _ _ _ ht4) (cwV 1 F.1.2.2.2.2 (gV q2_121 q2_123 qs_0 q1_1 q2_124) rfl rfl rfl (by decide +kernel) ⟨Nat.le_of_ble_eq_true rfl, Nat.le_of_ble_eq_true rfl⟩) rfl rfl rfl rfl (by decide) rfl rfl rfl rfl rfl rfl (Nat.le_of_ble_eq_true rfl) ⟨Nat.zero_le _, Nat.zero_le _⟩ dX11_feed_33 ?_
    refine a_aloadn (pc := 36) (j := 0) F dX11_feed_36 rfl rfl ?_
    refine a_iload (pc := 37) (j := 5) F dX11_feed_37 rfl ?_
    obtain ⟨t5, ht5, hf⟩ := bd_some hf
    refine a_callVv (pc := 39) (bs' := [bX11 y a0 (a1 0) z0_tokens z0_hillReader z0_lawReader z0_now z0_rules z0_diary z0_spare z0_draft z0_spareDiary z0_guess z0_past z0_imageHill z0_imageRules z0_imageDiary t5.1, bAB400 y a1 t5.2]) (kb := 0) (j := 0) F [0, 1] (c_X11_putBytes l D y ek n a0 a1 z0_tokens z0_hillReader z0_lawReader z0_now z0_rules z0_diary z0_spare z0_draft z0_spareDiary z0_guess z0_past z0_imageHill z0_imageRules z0_imageDiary _ _ _ _ ht5) (cwV 1 F.1.2.2.2.2 (gV q2_121 q2_123 qs_0 q1_1 q2_124) rfl rfl rfl (by decide +kernel) ⟨Nat.le_of_ble_eq_true rfl, Nat.le_of_ble_eq_true rfl⟩) rfl rfl rfl rfl (by decide) rfl rfl rfl rfl rfl rfl (Nat.le_of_ble_eq_true rfl) ⟨Nat.zero_le _, Nat.zero_le _⟩ dX11_feed_39 ?_
    refine a_aloadn (pc := 42) (j := 0) F dX11_feed_42 rfl rfl ?_
    refine a_get (pc := 43) (kb := 0) (j := 0) (f := 1) F iW_X11 rfl rfl rfl (by decide) (tl q2_57) (fun _ h => h) rfl dX11_feed_43 ?_
    obtain rfl := Option.some.inj hf
    exact hret _ _ _ _ (Nat.zero_le _) (Nat.zero_le _) rfl dX11_feed_46
  · replace hf := it_neg h hf
    refine a_iconst (pc := 13) F dX11_feed_13 kc_m1 ?_
    obtain rfl := Option.some.inj hf
    exact hret _ _ _ _ (Nat.zero_le _) (Nat.zero_le _) rfl dX11_feed_14

abbrev wX11_end : List Cond := Cond.code yX11_end cX11_end 2 (some .boolean) :: WALL
def m_X11_end (n : Nat) (v0 : St) (x1 : Int32) : Option (Int32 × St) :=
(if x1 < 0 then
some (0, v0)
else
(if x1 ≤ (v0 1 0) then
nm (su v0 1 0 x1) (fun u1 =>
some (1, u1))
else
some (0, v0)))
set_option maxHeartbeats 4000000 in
set_option maxRecDepth 100000 in
theorem c_X11_end (l : Launch) (D : va_G) (y : Nat → ClassId) (ek : EK) (n : Nat) (a0 : Nat → Nat) (z0_tape : Nat) (z0_tokens : Nat) (z0_hillReader : Nat) (z0_lawReader : Nat) (z0_now : Nat) (z0_rules : Nat) (z0_diary : Nat) (z0_spare : Nat) (z0_draft : Nat) (z0_spareDiary : Nat) (z0_guess : Nat) (z0_past : Nat) (z0_imageHill : Nat) (z0_imageRules : Nat) (z0_imageDiary : Nat) (v0 : St) (x1 : Int32) (res : Int32 × St) (hf : m_X11_end n v0 x1 = some res) : CI l yX11_end wX11_end { frames := 0, cells := 0, slots := 0, locals := 0 } D y ek [.ref (a0 0), .int x1] [bX11 y a0 z0_tape z0_tokens z0_hillReader z0_lawReader z0_now z0_rules z0_diary z0_spare z0_draft z0_spareDiary z0_guess z0_past z0_imageHill z0_imageRules z0_imageDiary v0] (res.1) [bX11 y a0 z0_tape z0_tokens z0_hillReader z0_lawReader z0_now z0_rules z0_diary z0_spare z0_draft z0_spareDiary z0_guess z0_past z0_imageHill z0_imageRules z0_imageDiary res.2] 0 0 := by
  unfold m_X11_end at hf
  refine ci_of (cc := cX11_end) (maxL := 2) (by decide) rfl rfl (Nat.le_of_ble_eq_true rfl) ?_
  intro p e s m below meth c Q A F hret
  refine a_lv (lv' := [(0, .ref (a0 0)), (1, .int x1)]) rfl ?_
  refine a_iloadn (pc := 0) (j := 1) F dX11_end_0 rfl rfl ?_
  refine a_if_lt (pc := 1) (tgt := 12) F dX11_end_1 (by decide) (fun h => ?_) (fun h => ?_)
  · replace hf := it_pos h hf
    refine a_iconst (pc := 12) F dX11_end_12 kc_0 ?_
    obtain rfl := Option.some.inj hf
    exact hret _ _ _ _ (Nat.zero_le _) (Nat.zero_le _) (z_nar (Or.inl rfl)) dX11_end_13
  · replace hf := it_neg h hf
    refine a_iloadn (pc := 4) (j := 1) F dX11_end_4 rfl rfl ?_
    refine a_aloadn (pc := 5) (j := 0) F dX11_end_5 rfl rfl ?_
    refine a_get (pc := 6) (kb := 0) (j := 0) (f := 1) F iW_X11 rfl rfl rfl (by decide) (tl q2_57) (fun _ h => h) rfl dX11_end_6 ?_
    refine a_icmp_le (pc := 9) (tgt := 14) F dX11_end_9 (by decide) (fun h => ?_) (fun h => ?_)
    · replace hf := it_pos h hf
      refine a_aloadn (pc := 14) (j := 0) F dX11_end_14 rfl rfl ?_
      refine a_iloadn (pc := 15) (j := 1) F dX11_end_15 rfl rfl ?_
      obtain ⟨u1, eu1, hf⟩ := nm_some hf
      refine a_put (pc := 16) (kb := 0) (j := 0) (f := 1) (ty := .int) (bs' := [bX11 y a0 z0_tape z0_tokens z0_hillReader z0_lawReader z0_now z0_rules z0_diary z0_spare z0_draft z0_spareDiary z0_guess z0_past z0_imageHill z0_imageRules z0_imageDiary u1]) F iW_X11 rfl rfl rfl (by decide) (tl q2_57) (fun _ h => h) tyX11 tyX11_ok nmX11 rfl rfl rfl rfl (Nat.le_of_ble_eq_true rfl) (by rw [eu1]; rfl) dX11_end_16 ?_
      refine a_iconst (pc := 19) F dX11_end_19 kc_1 ?_
      obtain rfl := Option.some.inj hf
      exact hret _ _ _ _ (Nat.zero_le _) (Nat.zero_le _) (z_nar (Or.inr rfl)) dX11_end_20
    · replace hf := it_neg h hf
      refine a_iconst (pc := 12) F dX11_end_12 kc_0 ?_
      obtain rfl := Option.some.inj hf
      exact hret _ _ _ _ (Nat.zero_le _) (Nat.zero_le _) (z_nar (Or.inl rfl)) dX11_end_13

abbrev wX11_useTapeUp : List Cond := Cond.code yX11_useTapeUp cX11_useTapeUp 2 (some .int) :: WALL
def m_X11_useTapeUp (n : Nat) (v0 : St) : Option (Int32 × St) :=
nm (v0 1 0) (fun x1_1 =>
nm (su v0 1 0 0) (fun u2 =>
some (x1_1, u2)))
set_option maxHeartbeats 4000000 in
set_option maxRecDepth 100000 in
theorem c_X11_useTapeUp (l : Launch) (D : va_G) (y : Nat → ClassId) (ek : EK) (n : Nat) (a0 : Nat → Nat) (z0_tape : Nat) (z0_tokens : Nat) (z0_hillReader : Nat) (z0_lawReader : Nat) (z0_now : Nat) (z0_rules : Nat) (z0_diary : Nat) (z0_spare : Nat) (z0_draft : Nat) (z0_spareDiary : Nat) (z0_guess : Nat) (z0_past : Nat) (z0_imageHill : Nat) (z0_imageRules : Nat) (z0_imageDiary : Nat) (v0 : St) (res : Int32 × St) (hf : m_X11_useTapeUp n v0 = some res) : CI l yX11_useTapeUp wX11_useTapeUp { frames := 0, cells := 0, slots := 0, locals := 0 } D y ek [.ref (a0 0)] [bX11 y a0 z0_tape z0_tokens z0_hillReader z0_lawReader z0_now z0_rules z0_diary z0_spare z0_draft z0_spareDiary z0_guess z0_past z0_imageHill z0_imageRules z0_imageDiary v0] (res.1) [bX11 y a0 z0_tape z0_tokens z0_hillReader z0_lawReader z0_now z0_rules z0_diary z0_spare z0_draft z0_spareDiary z0_guess z0_past z0_imageHill z0_imageRules z0_imageDiary res.2] 0 0 := by
  unfold m_X11_useTapeUp at hf
  refine ci_of (cc := cX11_useTapeUp) (maxL := 2) (by decide) rfl rfl (Nat.le_of_ble_eq_true rfl) ?_
  intro p e s m below meth c Q A F hret
  refine a_lv (lv' := [(0, .ref (a0 0))]) rfl ?_
  refine a_aloadn (pc := 0) (j := 0) F dX11_useTapeUp_0 rfl rfl ?_
  refine a_get (pc := 1) (kb := 0) (j := 0) (f := 1) F iW_X11 rfl rfl rfl (by decide) (tl q2_57) (fun _ h => h) rfl dX11_useTapeUp_1 ?_
  obtain ⟨x1_1, ex1_1, hf⟩ := nm_some hf
  refine a_nmi ex1_1 ?_
  refine a_istoren (pc := 4) (lv' := [(0, .ref (a0 0)), (1, .int x1_1)]) F [1, 0] dX11_useTapeUp_4 rfl (by decide) rfl ?_
  refine a_aloadn (pc := 5) (j := 0) F dX11_useTapeUp_5 rfl rfl ?_
  refine a_iconst (pc := 6) F dX11_useTapeUp_6 kc_0 ?_
  obtain ⟨u2, eu2, hf⟩ := nm_some hf
  refine a_put (pc := 7) (kb := 0) (j := 0) (f := 1) (ty := .int) (bs' := [bX11 y a0 z0_tape z0_tokens z0_hillReader z0_lawReader z0_now z0_rules z0_diary z0_spare z0_draft z0_spareDiary z0_guess z0_past z0_imageHill z0_imageRules z0_imageDiary u2]) F iW_X11 rfl rfl rfl (by decide) (tl q2_57) (fun _ h => h) tyX11 tyX11_ok nmX11 rfl rfl rfl rfl (Nat.le_of_ble_eq_true rfl) (by rw [eu2]; rfl) dX11_useTapeUp_7 ?_
  refine a_iloadn (pc := 10) (j := 1) F dX11_useTapeUp_10 rfl rfl ?_
  obtain rfl := Option.some.inj hf
  exact hret _ _ _ _ (Nat.zero_le _) (Nat.zero_le _) rfl dX11_useTapeUp_11

abbrev wX11_fault : List Cond := Cond.code yX11_fault cX11_fault 1 (some .int) :: WALL
def m_X11_fault (n : Nat) (v0 : St) : Option (Int32) :=
some (v0 2 0)
set_option maxHeartbeats 4000000 in
set_option maxRecDepth 100000 in
theorem c_X11_fault (l : Launch) (D : va_G) (y : Nat → ClassId) (ek : EK) (n : Nat) (a0 : Nat → Nat) (z0_tape : Nat) (z0_tokens : Nat) (z0_hillReader : Nat) (z0_lawReader : Nat) (z0_now : Nat) (z0_rules : Nat) (z0_diary : Nat) (z0_spare : Nat) (z0_draft : Nat) (z0_spareDiary : Nat) (z0_guess : Nat) (z0_past : Nat) (z0_imageHill : Nat) (z0_imageRules : Nat) (z0_imageDiary : Nat) (v0 : St) (res : Int32) (hf : m_X11_fault n v0 = some res) : CI l yX11_fault wX11_fault { frames := 0, cells := 0, slots := 0, locals := 0 } D y ek [.ref (a0 0)] [bX11 y a0 z0_tape z0_tokens z0_hillReader z0_lawReader z0_now z0_rules z0_diary z0_spare z0_draft z0_spareDiary z0_guess z0_past z0_imageHill z0_imageRules z0_imageDiary v0] (res) [bX11 y a0 z0_tape z0_tokens z0_hillReader z0_lawReader z0_now z0_rules z0_diary z0_spare z0_draft z0_spareDiary z0_guess z0_past z0_imageHill z0_imageRules z0_imageDiary v0] 0 0 := by
  unfold m_X11_fault at hf
  refine ci_of (cc := cX11_fault) (maxL := 1) (by decide) rfl rfl (Nat.le_of_ble_eq_true rfl) ?_
  intro p e s m below meth c Q A F hret
  refine a_lv (lv' := [(0, .ref (a0 0))]) rfl ?_
  refine a_aloadn (pc := 0) (j := 0) F dX11_fault_0 rfl rfl ?_
  refine a_get (pc := 1) (kb := 0) (j := 0) (f := 2) F iW_X11 rfl rfl rfl (by decide) (tl q2_58) (fun _ h => h) rfl dX11_fault_1 ?_
  obtain rfl := Option.some.inj hf
  exact hret _ _ _ _ (Nat.zero_le _) (Nat.zero_le _) rfl dX11_fault_4

abbrev wX11_checkPlank : List Cond := Cond.code yX11_checkPlank cX11_checkPlank 2 none :: WALL
def m_X11_checkPlank (n : Nat) (v0 : St) (v1 : St) (x1 : Int32) : Option ((Unit) ⊕ (Nat)) :=
(if x1 < 0 then
some (Sum.inr 2)
else
(if x1 < (v1 0 0) then
some (Sum.inl ())
else
some (Sum.inr 2)))
set_option maxHeartbeats 4000000 in
set_option maxRecDepth 100000 in
theorem c_X11_checkPlank (l : Launch) (D : va_G) (y : Nat → ClassId) (ek : EK) (n : Nat) (a0 : Nat → Nat) (a1 : Nat → Nat) (z0_tape : Nat) (z0_tokens : Nat) (z0_hillReader : Nat) (z0_lawReader : Nat) (z0_rules : Nat) (z0_diary : Nat) (z0_spare : Nat) (z0_draft : Nat) (z0_spareDiary : Nat) (z0_guess : Nat) (z0_past : Nat) (z0_imageHill : Nat) (z0_imageRules : Nat) (z0_imageDiary : Nat) (v0 : St) (v1 : St) (x1 : Int32) (res : Unit) (hf : m_X11_checkPlank n v0 v1 x1 = some (Sum.inl res)) : CV l yX11_checkPlank wX11_checkPlank { frames := 6, cells := 0, slots := 0, locals := 82 } D y ek [.ref (a0 0), .int x1] [bX11 y a0 z0_tape z0_tokens z0_hillReader z0_lawReader (a1 0) z0_rules z0_diary z0_spare z0_draft z0_spareDiary z0_guess z0_past z0_imageHill z0_imageRules z0_imageDiary v0, bX3 y a1 v1] [bX11 y a0 z0_tape z0_tokens z0_hillReader z0_lawReader (a1 0) z0_rules z0_diary z0_spare z0_draft z0_spareDiary z0_guess z0_past z0_imageHill z0_imageRules z0_imageDiary v0, bX3 y a1 v1] 0 0 := by
  unfold m_X11_checkPlank at hf
  refine cv_of (cc := cX11_checkPlank) (maxL := 2) (by decide) rfl rfl (Nat.le_of_ble_eq_true rfl) ?_
  intro p e s m below meth c Q A F hret
  refine a_lv (lv' := [(0, .ref (a0 0)), (1, .int x1)]) rfl ?_
  refine a_iloadn (pc := 0) (j := 1) F dX11_checkPlank_0 rfl rfl ?_
  refine a_if_lt (pc := 1) (tgt := 15) F dX11_checkPlank_1 (by decide) (fun h => ?_) (fun h => ?_)
  · replace hf := it_pos h hf
    exact absurd hf (by simp)
  · replace hf := it_neg h hf
    refine a_iloadn (pc := 4) (j := 1) F dX11_checkPlank_4 rfl rfl ?_
    refine a_aloadn (pc := 5) (j := 0) F dX11_checkPlank_5 rfl rfl ?_
    refine a_get (pc := 6) (kb := 0) (j := 0) (f := 7) F iW_X11 rfl rfl rfl (by decide) (tl q2_63) (fun _ h => h) rfl dX11_checkPlank_6 ?_
    refine a_get (pc := 9) (kb := 1) (j := 0) (f := 0) F iW_X3 rfl rfl rfl (by decide) (tl q1_68) (fun _ h => h) rfl dX11_checkPlank_9 ?_
    refine a_icmp_lt (pc := 12) (tgt := 23) F dX11_checkPlank_12 (by decide) (fun h => ?_) (fun h => ?_)
    · replace hf := it_pos h hf
      obtain rfl := Sum.inl.inj (Option.some.inj hf)
      exact hret _ _ _ _ (Nat.zero_le _) (Nat.zero_le _) dX11_checkPlank_23
    · replace hf := it_neg h hf
      exact absurd hf (by simp)
set_option maxHeartbeats 4000000 in
set_option maxRecDepth 100000 in
theorem x_X11_checkPlank (l : Launch) (hlt : l.stackTraces = false) (D : va_G) (y : Nat → ClassId) (ek : EK) (n : Nat) (a0 : Nat → Nat) (a1 : Nat → Nat) (z0_tape : Nat) (z0_tokens : Nat) (z0_hillReader : Nat) (z0_lawReader : Nat) (z0_rules : Nat) (z0_diary : Nat) (z0_spare : Nat) (z0_draft : Nat) (z0_spareDiary : Nat) (z0_guess : Nat) (z0_past : Nat) (z0_imageHill : Nat) (z0_imageRules : Nat) (z0_imageDiary : Nat) (v0 : St) (v1 : St) (x1 : Int32) (res : Nat) (hf : m_X11_checkPlank n v0 v1 x1 = some (Sum.inr res)) : CX l yX11_checkPlank wX11_checkPlank { frames := 6, cells := 1, slots := 6, locals := 82 } D y ek [.ref (a0 0), .int x1] [bX11 y a0 z0_tape z0_tokens z0_hillReader z0_lawReader (a1 0) z0_rules z0_diary z0_spare z0_draft z0_spareDiary z0_guess z0_past z0_imageHill z0_imageRules z0_imageDiary v0, bX3 y a1 v1] (eX.getD res "") [bX11 y a0 z0_tape z0_tokens z0_hillReader z0_lawReader (a1 0) z0_rules z0_diary z0_spare z0_draft z0_spareDiary z0_guess z0_past z0_imageHill z0_imageRules z0_imageDiary v0, bX3 y a1 v1] 1 6 := by
  unfold m_X11_checkPlank at hf
  refine cx_of (cc := cX11_checkPlank) (maxL := 2) hlt (by decide) rfl (Nat.le_of_ble_eq_true rfl) (Nat.le_refl 1) (Nat.le_refl 6) ?_
  intro p e s m below meth c Q A F hthr hout
  refine a_lv (lv' := [(0, .ref (a0 0)), (1, .int x1)]) rfl ?_
  refine a_iloadn (pc := 0) (j := 1) F dX11_checkPlank_0 rfl rfl ?_
  refine a_if_lt (pc := 1) (tgt := 15) F dX11_checkPlank_1 (by decide) (fun h => ?_) (fun h => ?_)
  · replace hf := it_pos h hf
    obtain rfl := Sum.inr.inj (Option.some.inj hf)
    exact hthr 15 152 154 _ _ xw_2 dX11_checkPlank_15 dX11_checkPlank_18 dX11_checkPlank_19 dX11_checkPlank_22 (Nat.le_of_ble_eq_true rfl) (Nat.le_of_ble_eq_true rfl) (Nat.le_of_ble_eq_true rfl) (Nat.le_of_ble_eq_true rfl)
  · replace hf := it_neg h hf
    refine a_iloadn (pc := 4) (j := 1) F dX11_checkPlank_4 rfl rfl ?_
    refine a_aloadn (pc := 5) (j := 0) F dX11_checkPlank_5 rfl rfl ?_
    refine a_get (pc := 6) (kb := 0) (j := 0) (f := 7) F iW_X11 rfl rfl rfl (by decide) (tl q2_63) (fun _ h => h) rfl dX11_checkPlank_6 ?_
    refine a_get (pc := 9) (kb := 1) (j := 0) (f := 0) F iW_X3 rfl rfl rfl (by decide) (tl q1_68) (fun _ h => h) rfl dX11_checkPlank_9 ?_
    refine a_icmp_lt (pc := 12) (tgt := 23) F dX11_checkPlank_12 (by decide) (fun h => ?_) (fun h => ?_)
    · replace hf := it_pos h hf
      exact absurd hf (by simp)
    · replace hf := it_neg h hf
      obtain rfl := Sum.inr.inj (Option.some.inj hf)
      exact hthr 15 152 154 _ _ xw_2 dX11_checkPlank_15 dX11_checkPlank_18 dX11_checkPlank_19 dX11_checkPlank_22 (Nat.le_of_ble_eq_true rfl) (Nat.le_of_ble_eq_true rfl) (Nat.le_of_ble_eq_true rfl) (Nat.le_of_ble_eq_true rfl)

abbrev wX11_checkHouse : List Cond := Cond.code yX11_checkHouse cX11_checkHouse 2 none :: WALL
def m_X11_checkHouse (n : Nat) (v0 : St) (v1 : St) (x1 : Int32) : Option ((Unit) ⊕ (Nat)) :=
(if x1 < 0 then
some (Sum.inr 2)
else
bd (m_X3_houses n v1) (fun t1 =>
(if x1 < t1 then
some (Sum.inl ())
else
some (Sum.inr 2))))
set_option maxHeartbeats 4000000 in
set_option maxRecDepth 100000 in
theorem c_X11_checkHouse (l : Launch) (D : va_G) (y : Nat → ClassId) (ek : EK) (n : Nat) (a0 : Nat → Nat) (a1 : Nat → Nat) (z0_tape : Nat) (z0_tokens : Nat) (z0_hillReader : Nat) (z0_lawReader : Nat) (z0_rules : Nat) (z0_diary : Nat) (z0_spare : Nat) (z0_draft : Nat) (z0_spareDiary : Nat) (z0_guess : Nat) (z0_past : Nat) (z0_imageHill : Nat) (z0_imageRules : Nat) (z0_imageDiary : Nat) (v0 : St) (v1 : St) (x1 : Int32) (res : Unit) (hf : m_X11_checkHouse n v0 v1 x1 = some (Sum.inl res)) : CV l yX11_checkHouse wX11_checkHouse { frames := 6, cells := 0, slots := 0, locals := 82 } D y ek [.ref (a0 0), .int x1] [bX11 y a0 z0_tape z0_tokens z0_hillReader z0_lawReader (a1 0) z0_rules z0_diary z0_spare z0_draft z0_spareDiary z0_guess z0_past z0_imageHill z0_imageRules z0_imageDiary v0, bX3 y a1 v1] [bX11 y a0 z0_tape z0_tokens z0_hillReader z0_lawReader (a1 0) z0_rules z0_diary z0_spare z0_draft z0_spareDiary z0_guess z0_past z0_imageHill z0_imageRules z0_imageDiary v0, bX3 y a1 v1] 0 0 := by
  unfold m_X11_checkHouse at hf
  refine cv_of (cc := cX11_checkHouse) (maxL := 2) (by decide) rfl rfl (Nat.le_of_ble_eq_true rfl) ?_
  intro p e s m below meth c Q A F hret
  refine a_lv (lv' := [(0, .ref (a0 0)), (1, .int x1)]) rfl ?_
  refine a_iloadn (pc := 0) (j := 1) F dX11_checkHouse_0 rfl rfl ?_
  refine a_if_lt (pc := 1) (tgt := 15) F dX11_checkHouse_1 (by decide) (fun h => ?_) (fun h => ?_)
  · replace hf := it_pos h hf
    exact absurd hf (by simp)
  · replace hf := it_neg h hf
    refine a_iloadn (pc := 4) (j := 1) F dX11_checkHouse_4 rfl rfl ?_
    refine a_aloadn (pc := 5) (j := 0) F dX11_checkHouse_5 rfl rfl ?_
    refine a_get (pc := 6) (kb := 0) (j := 0) (f := 7) F iW_X11 rfl rfl rfl (by decide) (tl q2_63) (fun _ h => h) rfl dX11_checkHouse_6 ?_
    obtain ⟨t1, ht1, hf⟩ := bd_some hf
    refine a_callV (pc := 9) (bs' := [bX11 y a0 z0_tape z0_tokens z0_hillReader z0_lawReader (a1 0) z0_rules z0_diary z0_spare z0_draft z0_spareDiary z0_guess z0_past z0_imageHill z0_imageRules z0_imageDiary v0, bX3 y a1 v1]) (kb := 1) (j := 0) F [1] (c_X3_houses l D y ek n a1 _ _ ht1) (cwV 0 F.1.2.2.2.2 (gV q2_179 q2_158 q2_159 q1_3 q2_160) rfl rfl rfl (by decide +kernel) ⟨Nat.le_of_ble_eq_true rfl, Nat.le_of_ble_eq_true rfl⟩) rfl rfl rfl rfl (by decide) rfl rfl rfl rfl rfl rfl (Nat.le_of_ble_eq_true rfl) ⟨Nat.zero_le _, Nat.zero_le _⟩ dX11_checkHouse_9 ?_
    refine a_icmp_lt (pc := 12) (tgt := 23) F dX11_checkHouse_12 (by decide) (fun h => ?_) (fun h => ?_)
    · replace hf := it_pos h hf
      obtain rfl := Sum.inl.inj (Option.some.inj hf)
      exact hret _ _ _ _ (Nat.zero_le _) (Nat.zero_le _) dX11_checkHouse_23
    · replace hf := it_neg h hf
      exact absurd hf (by simp)
set_option maxHeartbeats 4000000 in
set_option maxRecDepth 100000 in
theorem x_X11_checkHouse (l : Launch) (hlt : l.stackTraces = false) (D : va_G) (y : Nat → ClassId) (ek : EK) (n : Nat) (a0 : Nat → Nat) (a1 : Nat → Nat) (z0_tape : Nat) (z0_tokens : Nat) (z0_hillReader : Nat) (z0_lawReader : Nat) (z0_rules : Nat) (z0_diary : Nat) (z0_spare : Nat) (z0_draft : Nat) (z0_spareDiary : Nat) (z0_guess : Nat) (z0_past : Nat) (z0_imageHill : Nat) (z0_imageRules : Nat) (z0_imageDiary : Nat) (v0 : St) (v1 : St) (x1 : Int32) (res : Nat) (hf : m_X11_checkHouse n v0 v1 x1 = some (Sum.inr res)) : CX l yX11_checkHouse wX11_checkHouse { frames := 6, cells := 1, slots := 6, locals := 82 } D y ek [.ref (a0 0), .int x1] [bX11 y a0 z0_tape z0_tokens z0_hillReader z0_lawReader (a1 0) z0_rules z0_diary z0_spare z0_draft z0_spareDiary z0_guess z0_past z0_imageHill z0_imageRules z0_imageDiary v0, bX3 y a1 v1] (eX.getD res "") [bX11 y a0 z0_tape z0_tokens z0_hillReader z0_lawReader (a1 0) z0_rules z0_diary z0_spare z0_draft z0_spareDiary z0_guess z0_past z0_imageHill z0_imageRules z0_imageDiary v0, bX3 y a1 v1] 1 6 := by
  unfold m_X11_checkHouse at hf
  refine cx_of (cc := cX11_checkHouse) (maxL := 2) hlt (by decide) rfl (Nat.le_of_ble_eq_true rfl) (Nat.le_refl 1) (Nat.le_refl 6) ?_
  intro p e s m below meth c Q A F hthr hout
  refine a_lv (lv' := [(0, .ref (a0 0)), (1, .int x1)]) rfl ?_
  refine a_iloadn (pc := 0) (j := 1) F dX11_checkHouse_0 rfl rfl ?_
  refine a_if_lt (pc := 1) (tgt := 15) F dX11_checkHouse_1 (by decide) (fun h => ?_) (fun h => ?_)
  · replace hf := it_pos h hf
    obtain rfl := Sum.inr.inj (Option.some.inj hf)
    exact hthr 15 152 154 _ _ xw_2 dX11_checkHouse_15 dX11_checkHouse_18 dX11_checkHouse_19 dX11_checkHouse_22 (Nat.le_of_ble_eq_true rfl) (Nat.le_of_ble_eq_true rfl) (Nat.le_of_ble_eq_true rfl) (Nat.le_of_ble_eq_true rfl)
  · replace hf := it_neg h hf
    refine a_iloadn (pc := 4) (j := 1) F dX11_checkHouse_4 rfl rfl ?_
    refine a_aloadn (pc := 5) (j := 0) F dX11_checkHouse_5 rfl rfl ?_
    refine a_get (pc := 6) (kb := 0) (j := 0) (f := 7) F iW_X11 rfl rfl rfl (by decide) (tl q2_63) (fun _ h => h) rfl dX11_checkHouse_6 ?_
    obtain ⟨t1, ht1, hf⟩ := bd_some hf
    refine a_callV (pc := 9) (bs' := [bX11 y a0 z0_tape z0_tokens z0_hillReader z0_lawReader (a1 0) z0_rules z0_diary z0_spare z0_draft z0_spareDiary z0_guess z0_past z0_imageHill z0_imageRules z0_imageDiary v0, bX3 y a1 v1]) (kb := 1) (j := 0) F [1] (c_X3_houses l D y ek n a1 _ _ ht1) (cwV 0 F.1.2.2.2.2 (gV q2_179 q2_158 q2_159 q1_3 q2_160) rfl rfl rfl (by decide +kernel) ⟨Nat.le_of_ble_eq_true rfl, Nat.le_of_ble_eq_true rfl⟩) rfl rfl rfl rfl (by decide) rfl rfl rfl rfl rfl rfl (Nat.le_of_ble_eq_true rfl) ⟨Nat.zero_le _, Nat.zero_le _⟩ dX11_checkHouse_9 ?_
    refine a_icmp_lt (pc := 12) (tgt := 23) F dX11_checkHouse_12 (by decide) (fun h => ?_) (fun h => ?_)
    · replace hf := it_pos h hf
      exact absurd hf (by simp)
    · replace hf := it_neg h hf
      obtain rfl := Sum.inr.inj (Option.some.inj hf)
      exact hthr 15 152 154 _ _ xw_2 dX11_checkHouse_15 dX11_checkHouse_18 dX11_checkHouse_19 dX11_checkHouse_22 (Nat.le_of_ble_eq_true rfl) (Nat.le_of_ble_eq_true rfl) (Nat.le_of_ble_eq_true rfl) (Nat.le_of_ble_eq_true rfl)

abbrev wX11_checkThing : List Cond := Cond.code yX11_checkThing cX11_checkThing 2 none :: WALL
def m_X11_checkThing (n : Nat) (v0 : St) (v1 : St) (x1 : Int32) : Option ((Unit) ⊕ (Nat)) :=
(if x1 < 0 then
some (Sum.inr 2)
else
(if x1 < (v1 1 0) then
some (Sum.inl ())
else
some (Sum.inr 2)))
set_option maxHeartbeats 4000000 in
set_option maxRecDepth 100000 in
theorem c_X11_checkThing (l : Launch) (D : va_G) (y : Nat → ClassId) (ek : EK) (n : Nat) (a0 : Nat → Nat) (a1 : Nat → Nat) (z0_tape : Nat) (z0_tokens : Nat) (z0_hillReader : Nat) (z0_lawReader : Nat) (z0_rules : Nat) (z0_diary : Nat) (z0_spare : Nat) (z0_draft : Nat) (z0_spareDiary : Nat) (z0_guess : Nat) (z0_past : Nat) (z0_imageHill : Nat) (z0_imageRules : Nat) (z0_imageDiary : Nat) (v0 : St) (v1 : St) (x1 : Int32) (res : Unit) (hf : m_X11_checkThing n v0 v1 x1 = some (Sum.inl res)) : CV l yX11_checkThing wX11_checkThing { frames := 6, cells := 0, slots := 0, locals := 82 } D y ek [.ref (a0 0), .int x1] [bX11 y a0 z0_tape z0_tokens z0_hillReader z0_lawReader (a1 0) z0_rules z0_diary z0_spare z0_draft z0_spareDiary z0_guess z0_past z0_imageHill z0_imageRules z0_imageDiary v0, bX3 y a1 v1] [bX11 y a0 z0_tape z0_tokens z0_hillReader z0_lawReader (a1 0) z0_rules z0_diary z0_spare z0_draft z0_spareDiary z0_guess z0_past z0_imageHill z0_imageRules z0_imageDiary v0, bX3 y a1 v1] 0 0 := by
  unfold m_X11_checkThing at hf
  refine cv_of (cc := cX11_checkThing) (maxL := 2) (by decide) rfl rfl (Nat.le_of_ble_eq_true rfl) ?_
  intro p e s m below meth c Q A F hret
  refine a_lv (lv' := [(0, .ref (a0 0)), (1, .int x1)]) rfl ?_
  refine a_iloadn (pc := 0) (j := 1) F dX11_checkThing_0 rfl rfl ?_
  refine a_if_lt (pc := 1) (tgt := 15) F dX11_checkThing_1 (by decide) (fun h => ?_) (fun h => ?_)
  · replace hf := it_pos h hf
    exact absurd hf (by simp)
  · replace hf := it_neg h hf
    refine a_iloadn (pc := 4) (j := 1) F dX11_checkThing_4 rfl rfl ?_
    refine a_aloadn (pc := 5) (j := 0) F dX11_checkThing_5 rfl rfl ?_
    refine a_get (pc := 6) (kb := 0) (j := 0) (f := 7) F iW_X11 rfl rfl rfl (by decide) (tl q2_63) (fun _ h => h) rfl dX11_checkThing_6 ?_
    refine a_get (pc := 9) (kb := 1) (j := 0) (f := 1) F iW_X3 rfl rfl rfl (by decide) (tl q1_72) (fun _ h => h) rfl dX11_checkThing_9 ?_
    refine a_icmp_lt (pc := 12) (tgt := 23) F dX11_checkThing_12 (by decide) (fun h => ?_) (fun h => ?_)
    · replace hf := it_pos h hf
      obtain rfl := Sum.inl.inj (Option.some.inj hf)
      exact hret _ _ _ _ (Nat.zero_le _) (Nat.zero_le _) dX11_checkThing_23
    · replace hf := it_neg h hf
      exact absurd hf (by simp)
set_option maxHeartbeats 4000000 in
set_option maxRecDepth 100000 in
theorem x_X11_checkThing (l : Launch) (hlt : l.stackTraces = false) (D : va_G) (y : Nat → ClassId) (ek : EK) (n : Nat) (a0 : Nat → Nat) (a1 : Nat → Nat) (z0_tape : Nat) (z0_tokens : Nat) (z0_hillReader : Nat) (z0_lawReader : Nat) (z0_rules : Nat) (z0_diary : Nat) (z0_spare : Nat) (z0_draft : Nat) (z0_spareDiary : Nat) (z0_guess : Nat) (z0_past : Nat) (z0_imageHill : Nat) (z0_imageRules : Nat) (z0_imageDiary : Nat) (v0 : St) (v1 : St) (x1 : Int32) (res : Nat) (hf : m_X11_checkThing n v0 v1 x1 = some (Sum.inr res)) : CX l yX11_checkThing wX11_checkThing { frames := 6, cells := 1, slots := 6, locals := 82 } D y ek [.ref (a0 0), .int x1] [bX11 y a0 z0_tape z0_tokens z0_hillReader z0_lawReader (a1 0) z0_rules z0_diary z0_spare z0_draft z0_spareDiary z0_guess z0_past z0_imageHill z0_imageRules z0_imageDiary v0, bX3 y a1 v1] (eX.getD res "") [bX11 y a0 z0_tape z0_tokens z0_hillReader z0_lawReader (a1 0) z0_rules z0_diary z0_spare z0_draft z0_spareDiary z0_guess z0_past z0_imageHill z0_imageRules z0_imageDiary v0, bX3 y a1 v1] 1 6 := by
  unfold m_X11_checkThing at hf
  refine cx_of (cc := cX11_checkThing) (maxL := 2) hlt (by decide) rfl (Nat.le_of_ble_eq_true rfl) (Nat.le_refl 1) (Nat.le_refl 6) ?_
  intro p e s m below meth c Q A F hthr hout
  refine a_lv (lv' := [(0, .ref (a0 0)), (1, .int x1)]) rfl ?_
  refine a_iloadn (pc := 0) (j := 1) F dX11_checkThing_0 rfl rfl ?_
  refine a_if_lt (pc := 1) (tgt := 15) F dX11_checkThing_1 (by decide) (fun h => ?_) (fun h => ?_)
  · replace hf := it_pos h hf
    obtain rfl := Sum.inr.inj (Option.some.inj hf)
    exact hthr 15 152 154 _ _ xw_2 dX11_checkThing_15 dX11_checkThing_18 dX11_checkThing_19 dX11_checkThing_22 (Nat.le_of_ble_eq_true rfl) (Nat.le_of_ble_eq_true rfl) (Nat.le_of_ble_eq_true rfl) (Nat.le_of_ble_eq_true rfl)
  · replace hf := it_neg h hf
    refine a_iloadn (pc := 4) (j := 1) F dX11_checkThing_4 rfl rfl ?_
    refine a_aloadn (pc := 5) (j := 0) F dX11_checkThing_5 rfl rfl ?_
    refine a_get (pc := 6) (kb := 0) (j := 0) (f := 7) F iW_X11 rfl rfl rfl (by decide) (tl q2_63) (fun _ h => h) rfl dX11_checkThing_6 ?_
    refine a_get (pc := 9) (kb := 1) (j := 0) (f := 1) F iW_X3 rfl rfl rfl (by decide) (tl q1_72) (fun _ h => h) rfl dX11_checkThing_9 ?_
    refine a_icmp_lt (pc := 12) (tgt := 23) F dX11_checkThing_12 (by decide) (fun h => ?_) (fun h => ?_)
    · replace hf := it_pos h hf
      exact absurd hf (by simp)
    · replace hf := it_neg h hf
      obtain rfl := Sum.inr.inj (Option.some.inj hf)
      exact hthr 15 152 154 _ _ xw_2 dX11_checkThing_15 dX11_checkThing_18 dX11_checkThing_19 dX11_checkThing_22 (Nat.le_of_ble_eq_true rfl) (Nat.le_of_ble_eq_true rfl) (Nat.le_of_ble_eq_true rfl) (Nat.le_of_ble_eq_true rfl)

abbrev wX11_checkNumber : List Cond := Cond.code yX11_checkNumber cX11_checkNumber 3 none :: WALL
def m_X11_checkNumber (n : Nat) (x0 : Int32) (x1 : Int32) (x2 : Int32) : Option ((Unit) ⊕ (Nat)) :=
(if x0 < x1 then
some (Sum.inr 0)
else
(if x0 ≤ x2 then
some (Sum.inl ())
else
some (Sum.inr 0)))
set_option maxHeartbeats 4000000 in
set_option maxRecDepth 100000 in
theorem c_X11_checkNumber (l : Launch) (D : va_G) (y : Nat → ClassId) (ek : EK) (n : Nat) (x0 : Int32) (x1 : Int32) (x2 : Int32) (res : Unit) (hf : m_X11_checkNumber n x0 x1 x2 = some (Sum.inl res)) : CV l yX11_checkNumber wX11_checkNumber { frames := 6, cells := 0, slots := 0, locals := 82 } D y ek [.int x0, .int x1, .int x2] [] [] 0 0 := by
  unfold m_X11_checkNumber at hf
  refine cv_of (cc := cX11_checkNumber) (maxL := 3) (by decide) rfl rfl (Nat.le_of_ble_eq_true rfl) ?_
  intro p e s m below meth c Q A F hret
  refine a_lv (lv' := [(0, .int x0), (1, .int x1), (2, .int x2)]) rfl ?_
  refine a_iloadn (pc := 0) (j := 0) F dX11_checkNumber_0 rfl rfl ?_
  refine a_iloadn (pc := 1) (j := 1) F dX11_checkNumber_1 rfl rfl ?_
  refine a_icmp_lt (pc := 2) (tgt := 10) F dX11_checkNumber_2 (by decide) (fun h => ?_) (fun h => ?_)
  · replace hf := it_pos h hf
    exact absurd hf (by simp)
  · replace hf := it_neg h hf
    refine a_iloadn (pc := 5) (j := 0) F dX11_checkNumber_5 rfl rfl ?_
    refine a_iloadn (pc := 6) (j := 2) F dX11_checkNumber_6 rfl rfl ?_
    refine a_icmp_le (pc := 7) (tgt := 18) F dX11_checkNumber_7 (by decide) (fun h => ?_) (fun h => ?_)
    · replace hf := it_pos h hf
      obtain rfl := Sum.inl.inj (Option.some.inj hf)
      exact hret _ _ _ _ (Nat.zero_le _) (Nat.zero_le _) dX11_checkNumber_18
    · replace hf := it_neg h hf
      exact absurd hf (by simp)
set_option maxHeartbeats 4000000 in
set_option maxRecDepth 100000 in
theorem x_X11_checkNumber (l : Launch) (hlt : l.stackTraces = false) (D : va_G) (y : Nat → ClassId) (ek : EK) (n : Nat) (x0 : Int32) (x1 : Int32) (x2 : Int32) (res : Nat) (hf : m_X11_checkNumber n x0 x1 x2 = some (Sum.inr res)) : CX l yX11_checkNumber wX11_checkNumber { frames := 6, cells := 1, slots := 6, locals := 82 } D y ek [.int x0, .int x1, .int x2] [] (eX.getD res "") [] 1 6 := by
  unfold m_X11_checkNumber at hf
  refine cx_of (cc := cX11_checkNumber) (maxL := 3) hlt (by decide) rfl (Nat.le_of_ble_eq_true rfl) (Nat.le_refl 1) (Nat.le_refl 6) ?_
  intro p e s m below meth c Q A F hthr hout
  refine a_lv (lv' := [(0, .int x0), (1, .int x1), (2, .int x2)]) rfl ?_
  refine a_iloadn (pc := 0) (j := 0) F dX11_checkNumber_0 rfl rfl ?_
  refine a_iloadn (pc := 1) (j := 1) F dX11_checkNumber_1 rfl rfl ?_
  refine a_icmp_lt (pc := 2) (tgt := 10) F dX11_checkNumber_2 (by decide) (fun h => ?_) (fun h => ?_)
  · replace hf := it_pos h hf
    obtain rfl := Sum.inr.inj (Option.some.inj hf)
    exact hthr 10 127 129 _ _ xw_0 dX11_checkNumber_10 dX11_checkNumber_13 dX11_checkNumber_14 dX11_checkNumber_17 (Nat.le_of_ble_eq_true rfl) (Nat.le_of_ble_eq_true rfl) (Nat.le_of_ble_eq_true rfl) (Nat.le_of_ble_eq_true rfl)
  · replace hf := it_neg h hf
    refine a_iloadn (pc := 5) (j := 0) F dX11_checkNumber_5 rfl rfl ?_
    refine a_iloadn (pc := 6) (j := 2) F dX11_checkNumber_6 rfl rfl ?_
    refine a_icmp_le (pc := 7) (tgt := 18) F dX11_checkNumber_7 (by decide) (fun h => ?_) (fun h => ?_)
    · replace hf := it_pos h hf
      exact absurd hf (by simp)
    · replace hf := it_neg h hf
      obtain rfl := Sum.inr.inj (Option.some.inj hf)
      exact hthr 10 127 129 _ _ xw_0 dX11_checkNumber_10 dX11_checkNumber_13 dX11_checkNumber_14 dX11_checkNumber_17 (Nat.le_of_ble_eq_true rfl) (Nat.le_of_ble_eq_true rfl) (Nat.le_of_ble_eq_true rfl) (Nat.le_of_ble_eq_true rfl)

abbrev wX11_view : List Cond := Cond.code yX11_view cX11_view 3 (some .int) :: WALL
def m_X11_view (n : Nat) (v0 : St) (v1 : St) : Option (Int32) :=
lp (fun (rc1 : Int32 × Int32 → Option (Int32)) (x1l : Int32 × Int32) =>
bd (m_X3_houses n v1) (fun t2 =>
(if t2 ≤ x1l.2 then
some x1l.1
else
(if ix x1l.2 10 then bd ((if (v1 19 (x1l.2).toNatClampNeg) ≤ 5 then
some x1l.1
else
nm (x1l.1 ||| (x_shl 1 x1l.2)) (fun x1_5 =>
some x1_5))) (fun (t4 : Int32) =>
rc1 (t4, (x1l.2 + 1))) else none)))) n (0, 0)
set_option maxHeartbeats 4000000 in
set_option maxRecDepth 100000 in
theorem c_X11_view (l : Launch) (D : va_G) (y : Nat → ClassId) (ek : EK) (n : Nat) (a0 : Nat → Nat) (a1 : Nat → Nat) (z0_tape : Nat) (z0_tokens : Nat) (z0_hillReader : Nat) (z0_lawReader : Nat) (z0_rules : Nat) (z0_diary : Nat) (z0_spare : Nat) (z0_draft : Nat) (z0_spareDiary : Nat) (z0_guess : Nat) (z0_past : Nat) (z0_imageHill : Nat) (z0_imageRules : Nat) (z0_imageDiary : Nat) (v0 : St) (v1 : St) (res : Int32) (hf : m_X11_view n v0 v1 = some res) : CI l yX11_view wX11_view { frames := 1, cells := 0, slots := 0, locals := 20 } D y ek [.ref (a0 0)] [bX11 y a0 z0_tape z0_tokens z0_hillReader z0_lawReader (a1 0) z0_rules z0_diary z0_spare z0_draft z0_spareDiary z0_guess z0_past z0_imageHill z0_imageRules z0_imageDiary v0, bX3 y a1 v1] (res) [bX11 y a0 z0_tape z0_tokens z0_hillReader z0_lawReader (a1 0) z0_rules z0_diary z0_spare z0_draft z0_spareDiary z0_guess z0_past z0_imageHill z0_imageRules z0_imageDiary v0, bX3 y a1 v1] 0 0 := by
  unfold m_X11_view at hf
  refine ci_of (cc := cX11_view) (maxL := 3) (by decide) rfl rfl (Nat.le_of_ble_eq_true rfl) ?_
  intro p e s m below meth c Q A F hret
  refine a_lv (lv' := [(0, .ref (a0 0))]) rfl ?_
  refine a_iconst (pc := 0) F dX11_view_0 kc_0 ?_
  refine a_istoren (pc := 1) (lv' := [(0, .ref (a0 0)), (1, .int 0)]) F [1, 0] dX11_view_1 rfl (by decide) rfl ?_
  refine a_iconst (pc := 2) F dX11_view_2 kc_0 ?_
  refine a_istoren (pc := 3) (lv' := [(0, .ref (a0 0)), (1, .int 0), (2, .int 0)]) F [1, 2, 0] dX11_view_3 rfl (by decide) rfl ?_
  refine a_loop 4 (fun (x1l : Int32 × Int32) => [(0, .ref (a0 0)), (1, .int x1l.1), (2, .int x1l.2)]) (fun (x1l : Int32 × Int32) => [bX11 y a0 z0_tape z0_tokens z0_hillReader z0_lawReader (a1 0) z0_rules z0_diary z0_spare z0_draft z0_spareDiary z0_guess z0_past z0_imageHill z0_imageRules z0_imageDiary v0, bX3 y a1 v1]) (fun rc1 x1l ih1 hf => ?_) hf rfl rfl
  try dsimp only at hf ⊢
  refine a_iloadn (pc := 4) (j := 2) F dX11_view_4 rfl rfl ?_
  refine a_aloadn (pc := 5) (j := 0) F dX11_view_5 rfl rfl ?_
  refine a_get (pc := 6) (kb := 0) (j := 0) (f := 7) F iW_X11 rfl rfl rfl (by decide) (tl q2_63) (fun _ h => h) rfl dX11_view_6 ?_
  obtain ⟨t2, ht2, hf⟩ := bd_some hf
  refine a_callV (pc := 9) (bs' := [bX11 y a0 z0_tape z0_tokens z0_hillReader z0_lawReader (a1 0) z0_rules z0_diary z0_spare z0_draft z0_spareDiary z0_guess z0_past z0_imageHill z0_imageRules z0_imageDiary v0, bX3 y a1 v1]) (kb := 1) (j := 0) F [1] (c_X3_houses l D y ek n a1 _ _ ht2) (cwV 0 F.1.2.2.2.2 (gV q2_179 q2_158 q2_159 q1_3 q2_160) rfl rfl rfl (by decide +kernel) ⟨Nat.le_of_ble_eq_true rfl, Nat.le_of_ble_eq_true rfl⟩) rfl rfl rfl rfl (by decide) rfl rfl rfl rfl rfl rfl (Nat.le_of_ble_eq_true rfl) ⟨Nat.zero_le _, Nat.zero_le _⟩ dX11_view_9 ?_
  refine a_icmp_ge (pc := 12) (tgt := 40) F dX11_view_12 (by decide) (fun h => ?_) (fun h => ?_)
  · replace hf := it_pos h hf
    refine a_iloadn (pc := 40) (j := 1) F dX11_view_40 rfl rfl ?_
    obtain rfl := Option.some.inj hf
    exact hret _ _ _ _ (Nat.zero_le _) (Nat.zero_le _) rfl dX11_view_41
  · replace hf := it_neg h hf
    refine a_aloadn (pc := 15) (j := 0) F dX11_view_15 rfl rfl ?_
    refine a_get (pc := 16) (kb := 0) (j := 0) (f := 7) F iW_X11 rfl rfl rfl (by decide) (tl q2_63) (fun _ h => h) rfl dX11_view_16 ?_
    refine a_get (pc := 19) (kb := 1) (j := 0) (f := 19) F iW_X3 rfl rfl rfl (by decide) (tl q1_120) (fun _ h => h) rfl dX11_view_19 ?_
    refine a_iloadn (pc := 22) (j := 2) F dX11_view_22 rfl rfl ?_
    obtain ⟨h3, hf⟩ := gd_some hf
    refine a_iald (pc := 23) (kb := 1) (j := 11) F rfl rfl h3 dX11_view_23 ?_
    refine a_iconst (pc := 24) F dX11_view_24 kc_5 ?_
    refine a_join 34 (fun (t4 : Int32) => [(0, .ref (a0 0)), (1, .int t4), (2, .int x1l.2)]) (fun (t4 : Int32) => []) (fun (t4 : Int32) => [bX11 y a0 z0_tape z0_tokens z0_hillReader z0_lawReader (a1 0) z0_rules z0_diary z0_spare z0_draft z0_spareDiary z0_guess z0_past z0_imageHill z0_imageRules z0_imageDiary v0, bX3 y a1 v1]) hf (fun t4 hf => ?_) (fun t4 hf J4 => ?_)
    · try dsimp only at hf ⊢
      refine a_iinc (pc := 34) (j := 2) (v := (x1l.2 + 1)) (lv' := [(0, .ref (a0 0)), (1, .int t4), (2, .int (x1l.2 + 1))]) F [1, 2, 0] dX11_view_34 rfl ki_1 (by decide) rfl ?_
      refine a_goto (pc := 37) (tgt := 4) F dX11_view_37 (by decide) ?_
      exact ih1 (t4, (x1l.2 + 1)) hf
    · refine a_icmp_le (pc := 25) (tgt := 34) F dX11_view_25 (by decide) (fun h => ?_) (fun h => ?_)
      · replace hf := it_pos h hf
        obtain rfl := Option.some.inj hf
        exact J4
      · replace hf := it_neg h hf
        refine a_iloadn (pc := 28) (j := 1) F dX11_view_28 rfl rfl ?_
        refine a_iconst (pc := 29) F dX11_view_29 kc_1 ?_
        refine a_iloadn (pc := 30) (j := 2) F dX11_view_30 rfl rfl ?_
        refine a_ishl (pc := 31) F dX11_view_31 ?_
        refine a_ior (pc := 32) F dX11_view_32 ?_
        obtain ⟨x1_5, ex1_5, hf⟩ := nm_some hf
        refine a_nmi ex1_5 ?_
        refine a_istoren (pc := 33) (lv' := [(0, .ref (a0 0)), (1, .int x1_5), (2, .int x1l.2)]) F [1, 0, 2] dX11_view_33 rfl (by decide) rfl ?_
        obtain rfl := Option.some.inj hf
        exact J4

abbrev wX11_well : List Cond := Cond.code yX11_well cX11_well 3 (some .int) :: WALL
def m_X11_well (n : Nat) (v0 : St) (v1 : St) : Option (Int32) :=
lp (fun (rc1 : Int32 × Int32 → Option (Int32)) (x1l : Int32 × Int32) =>
bd (m_X3_houses n v1) (fun t2 =>
(if t2 ≤ x1l.2 then
some x1l.1
else
(if ix x1l.2 10 then bd ((if 5 ≤ (v1 19 (x1l.2).toNatClampNeg) then
some x1l.1
else
nm (x1l.1 ||| (x_shl 1 x1l.2)) (fun x1_5 =>
some x1_5))) (fun (t4 : Int32) =>
rc1 (t4, (x1l.2 + 1))) else none)))) n (0, 0)
set_option maxHeartbeats 4000000 in
set_option maxRecDepth 100000 in
theorem c_X11_well (l : Launch) (D : va_G) (y : Nat → ClassId) (ek : EK) (n : Nat) (a0 : Nat → Nat) (a1 : Nat → Nat) (z0_tape : Nat) (z0_tokens : Nat) (z0_hillReader : Nat) (z0_lawReader : Nat) (z0_rules : Nat) (z0_diary : Nat) (z0_spare : Nat) (z0_draft : Nat) (z0_spareDiary : Nat) (z0_guess : Nat) (z0_past : Nat) (z0_imageHill : Nat) (z0_imageRules : Nat) (z0_imageDiary : Nat) (v0 : St) (v1 : St) (res : Int32) (hf : m_X11_well n v0 v1 = some res) : CI l yX11_well wX11_well { frames := 1, cells := 0, slots := 0, locals := 20 } D y ek [.ref (a0 0)] [bX11 y a0 z0_tape z0_tokens z0_hillReader z0_lawReader (a1 0) z0_rules z0_diary z0_spare z0_draft z0_spareDiary z0_guess z0_past z0_imageHill z0_imageRules z0_imageDiary v0, bX3 y a1 v1] (res) [bX11 y a0 z0_tape z0_tokens z0_hillReader z0_lawReader (a1 0) z0_rules z0_diary z0_spare z0_draft z0_spareDiary z0_guess z0_past z0_imageHill z0_imageRules z0_imageDiary v0, bX3 y a1 v1] 0 0 := by
  unfold m_X11_well at hf
  refine ci_of (cc := cX11_well) (maxL := 3) (by decide) rfl rfl (Nat.le_of_ble_eq_true rfl) ?_
  intro p e s m below meth c Q A F hret
  refine a_lv (lv' := [(0, .ref (a0 0))]) rfl ?_
  refine a_iconst (pc := 0) F dX11_well_0 kc_0 ?_
  refine a_istoren (pc := 1) (lv' := [(0, .ref (a0 0)), (1, .int 0)]) F [1, 0] dX11_well_1 rfl (by decide) rfl ?_
  refine a_iconst (pc := 2) F dX11_well_2 kc_0 ?_
  refine a_istoren (pc := 3) (lv' := [(0, .ref (a0 0)), (1, .int 0), (2, .int 0)]) F [1, 2, 0] dX11_well_3 rfl (by decide) rfl ?_
  refine a_loop 4 (fun (x1l : Int32 × Int32) => [(0, .ref (a0 0)), (1, .int x1l.1), (2, .int x1l.2)]) (fun (x1l : Int32 × Int32) => [bX11 y a0 z0_tape z0_tokens z0_hillReader z0_lawReader (a1 0) z0_rules z0_diary z0_spare z0_draft z0_spareDiary z0_guess z0_past z0_imageHill z0_imageRules z0_imageDiary v0, bX3 y a1 v1]) (fun rc1 x1l ih1 hf => ?_) hf rfl rfl
  try dsimp only at hf ⊢
  refine a_iloadn (pc := 4) (j := 2) F dX11_well_4 rfl rfl ?_
  refine a_aloadn (pc := 5) (j := 0) F dX11_well_5 rfl rfl ?_
  refine a_get (pc := 6) (kb := 0) (j := 0) (f := 7) F iW_X11 rfl rfl rfl (by decide) (tl q2_63) (fun _ h => h) rfl dX11_well_6 ?_
  obtain ⟨t2, ht2, hf⟩ := bd_some hf
  refine a_callV (pc := 9) (bs' := [bX11 y a0 z0_tape z0_tokens z0_hillReader z0_lawReader (a1 0) z0_rules z0_diary z0_spare z0_draft z0_spareDiary z0_guess z0_past z0_imageHill z0_imageRules z0_imageDiary v0, bX3 y a1 v1]) (kb := 1) (j := 0) F [1] (c_X3_houses l D y ek n a1 _ _ ht2) (cwV 0 F.1.2.2.2.2 (gV q2_179 q2_158 q2_159 q1_3 q2_160) rfl rfl rfl (by decide +kernel) ⟨Nat.le_of_ble_eq_true rfl, Nat.le_of_ble_eq_true rfl⟩) rfl rfl rfl rfl (by decide) rfl rfl rfl rfl rfl rfl (Nat.le_of_ble_eq_true rfl) ⟨Nat.zero_le _, Nat.zero_le _⟩ dX11_well_9 ?_
  refine a_icmp_ge (pc := 12) (tgt := 40) F dX11_well_12 (by decide) (fun h => ?_) (fun h => ?_)
  · replace hf := it_pos h hf
    refine a_iloadn (pc := 40) (j := 1) F dX11_well_40 rfl rfl ?_
    obtain rfl := Option.some.inj hf
    exact hret _ _ _ _ (Nat.zero_le _) (Nat.zero_le _) rfl dX11_well_41
  · replace hf := it_neg h hf
    refine a_aloadn (pc := 15) (j := 0) F dX11_well_15 rfl rfl ?_
    refine a_get (pc := 16) (kb := 0) (j := 0) (f := 7) F iW_X11 rfl rfl rfl (by decide) (tl q2_63) (fun _ h => h) rfl dX11_well_16 ?_
    refine a_get (pc := 19) (kb := 1) (j := 0) (f := 19) F iW_X3 rfl rfl rfl (by decide) (tl q1_120) (fun _ h => h) rfl dX11_well_19 ?_
    refine a_iloadn (pc := 22) (j := 2) F dX11_well_22 rfl rfl ?_
    obtain ⟨h3, hf⟩ := gd_some hf
    refine a_iald (pc := 23) (kb := 1) (j := 11) F rfl rfl h3 dX11_well_23 ?_
    refine a_iconst (pc := 24) F dX11_well_24 kc_5 ?_
    refine a_join 34 (fun (t4 : Int32) => [(0, .ref (a0 0)), (1, .int t4), (2, .int x1l.2)]) (fun (t4 : Int32) => []) (fun (t4 : Int32) => [bX11 y a0 z0_tape z0_tokens z0_hillReader z0_lawReader (a1 0) z0_rules z0_diary z0_spare z0_draft z0_spareDiary z0_guess z0_past z0_imageHill z0_imageRules z0_imageDiary v0, bX3 y a1 v1]) hf (fun t4 hf => ?_) (fun t4 hf J4 => ?_)
    · try dsimp only at hf ⊢
      refine a_iinc (pc := 34) (j := 2) (v := (x1l.2 + 1)) (lv' := [(0, .ref (a0 0)), (1, .int t4), (2, .int (x1l.2 + 1))]) F [1, 2, 0] dX11_well_34 rfl ki_1 (by decide) rfl ?_
      refine a_goto (pc := 37) (tgt := 4) F dX11_well_37 (by decide) ?_
      exact ih1 (t4, (x1l.2 + 1)) hf
    · refine a_icmp_ge (pc := 25) (tgt := 34) F dX11_well_25 (by decide) (fun h => ?_) (fun h => ?_)
      · replace hf := it_pos h hf
        obtain rfl := Option.some.inj hf
        exact J4
      · replace hf := it_neg h hf
        refine a_iloadn (pc := 28) (j := 1) F dX11_well_28 rfl rfl ?_
        refine a_iconst (pc := 29) F dX11_well_29 kc_1 ?_
        refine a_iloadn (pc := 30) (j := 2) F dX11_well_30 rfl rfl ?_
        refine a_ishl (pc := 31) F dX11_well_31 ?_
        refine a_ior (pc := 32) F dX11_well_32 ?_
        obtain ⟨x1_5, ex1_5, hf⟩ := nm_some hf
        refine a_nmi ex1_5 ?_
        refine a_istoren (pc := 33) (lv' := [(0, .ref (a0 0)), (1, .int x1_5), (2, .int x1l.2)]) F [1, 0, 2] dX11_well_33 rfl (by decide) rfl ?_
        obtain rfl := Option.some.inj hf
        exact J4

abbrev wX11_twins : List Cond := Cond.code yX11_twins cX11_twins 5 (some .int) :: WALL
def m_X11_twins (n : Nat) (v0 : St) (v1 : St) : Option (Int32) :=
lp (fun (rc1 : Int32 × Int32 → Option (Int32)) (x1l : Int32 × Int32) =>
(if (v1 0 0) ≤ x1l.2 then
some x1l.1
else
nm (x1l.2 + 1) (fun x3_2 =>
bd (lp (fun (rc4 : Int32 × Int32 → Option (Int32)) (x4l : Int32 × Int32) =>
(if (v1 0 0) ≤ x4l.2 then
some x4l.1
else
(if ix x1l.2 5 then bd (jn (fun (t10 : Unit) =>
some 0) (fun (K10 : Unit → Option (Int32)) =>
(if (v1 12 (x1l.2).toNatClampNeg) = 0 then
(if ix x4l.2 5 then (if (v1 12 (x4l.2).toNatClampNeg) = 0 then
some 1
else
K10 ()) else none)
else
K10 ()))) (fun (t6 : Int32) =>
bd ((if t6 = 0 then
some x4l.1
else
bd (m_X3_tiltOf n v1 x1l.2) (fun t8 =>
bd (m_X3_tiltOf n v1 x4l.2) (fun t9 =>
(if t8 = t9 then
some (x4l.1 + 1)
else
some x4l.1))))) (fun (t7 : Int32) =>
rc4 (t7, (x4l.2 + 1)))) else none))) n (x1l.1, x3_2)) (fun (t3 : Int32) =>
rc1 (t3, (x1l.2 + 1)))))) n (0, 0)
set_option maxHeartbeats 4000000 in
set_option maxRecDepth 100000 in
theorem c_X11_twins (l : Launch) (D : va_G) (y : Nat → ClassId) (ek : EK) (n : Nat) (a0 : Nat → Nat) (a1 : Nat → Nat) (z0_tape : Nat) (z0_tokens : Nat) (z0_hillReader : Nat) (z0_lawReader : Nat) (z0_rules : Nat) (z0_diary : Nat) (z0_spare : Nat) (z0_draft : Nat) (z0_spareDiary : Nat) (z0_guess : Nat) (z0_past : Nat) (z0_imageHill : Nat) (z0_imageRules : Nat) (z0_imageDiary : Nat) (v0 : St) (v1 : St) (res : Int32) (hf : m_X11_twins n v0 v1 = some res) : CI l yX11_twins wX11_twins { frames := 3, cells := 0, slots := 0, locals := 60 } D y ek [.ref (a0 0)] [bX11 y a0 z0_tape z0_tokens z0_hillReader z0_lawReader (a1 0) z0_rules z0_diary z0_spare z0_draft z0_spareDiary z0_guess z0_past z0_imageHill z0_imageRules z0_imageDiary v0, bX3 y a1 v1] (res) [bX11 y a0 z0_tape z0_tokens z0_hillReader z0_lawReader (a1 0) z0_rules z0_diary z0_spare z0_draft z0_spareDiary z0_guess z0_past z0_imageHill z0_imageRules z0_imageDiary v0, bX3 y a1 v1] 0 0 := by
  unfold m_X11_twins at hf
  refine ci_of (cc := cX11_twins) (maxL := 5) (by decide) rfl rfl (Nat.le_of_ble_eq_true rfl) ?_
  intro p e s m below meth c Q A F hret
  refine a_lv (lv' := [(0, .ref (a0 0))]) rfl ?_
  refine a_iconst (pc := 0) F dX11_twins_0 kc_0 ?_
  refine a_istoren (pc := 1) (lv' := [(0, .ref (a0 0)), (1, .int 0)]) F [1, 0] dX11_twins_1 rfl (by decide) rfl ?_
  refine a_iconst (pc := 2) F dX11_twins_2 kc_0 ?_
  refine a_istoren (pc := 3) (lv' := [(0, .ref (a0 0)), (1, .int 0), (2, .int 0)]) F [1, 2, 0] dX11_twins_3 rfl (by decide) rfl ?_
  refine a_loop 4 (fun (x1l : Int32 × Int32) => [(0, .ref (a0 0)), (1, .int x1l.1), (2, .int x1l.2)]) (fun (x1l : Int32 × Int32) => [bX11 y a0 z0_tape z0_tokens z0_hillReader z0_lawReader (a1 0) z0_rules z0_diary z0_spare z0_draft z0_spareDiary z0_guess z0_past z0_imageHill z0_imageRules z0_imageDiary v0, bX3 y a1 v1]) (fun rc1 x1l ih1 hf => ?_) hf rfl rfl
  try dsimp only at hf ⊢
  refine a_iloadn (pc := 4) (j := 2) F dX11_twins_4 rfl rfl ?_
  refine a_aloadn (pc := 5) (j := 0) F dX11_twins_5 rfl rfl ?_
  refine a_get (pc := 6) (kb := 0) (j := 0) (f := 7) F iW_X11 rfl rfl rfl (by decide) (tl q2_63) (fun _ h => h) rfl dX11_twins_6 ?_
  refine a_get (pc := 9) (kb := 1) (j := 0) (f := 0) F iW_X3 rfl rfl rfl (by decide) (tl q1_68) (fun _ h => h) rfl dX11_twins_9 ?_
  refine a_icmp_ge (pc := 12) (tgt := 100) F dX11_twins_12 (by decide) (fun h => ?_) (fun h => ?_)
  · replace hf := it_pos h hf
    refine a_iloadn (pc := 100) (j := 1) F dX11_twins_100 rfl rfl ?_
    obtain rfl := Option.some.inj hf
    exact hret _ _ _ _ (Nat.zero_le _) (Nat.zero_le _) rfl dX11_twins_101
  · replace hf := it_neg h hf
    refine a_iloadn (pc := 15) (j := 2) F dX11_twins_15 rfl rfl ?_
    refine a_iconst (pc := 16) F dX11_twins_16 kc_1 ?_
    refine a_iadd (pc := 17) F dX11_twins_17 ?_
    obtain ⟨x3_2, ex3_2, hf⟩ := nm_some hf
    refine a_nmi ex3_2 ?_
    refine a_istoren (pc := 18) (lv' := [(0, .ref (a0 0)), (1, .int x1l.1), (2, .int x1l.2), (3, .int x3_2)]) F [1, 2, 3, 0] dX11_twins_18 rfl (by decide) rfl ?_
    refine a_join 94 (fun (t3 : Int32) => [(0, .ref (a0 0)), (1, .int t3), (2, .int x1l.2)]) (fun (t3 : Int32) => []) (fun (t3 : Int32) => [bX11 y a0 z0_tape z0_tokens z0_hillReader z0_lawReader (a1 0) z0_rules z0_diary z0_spare z0_draft z0_spareDiary z0_guess z0_past z0_imageHill z0_imageRules z0_imageDiary v0, bX3 y a1 v1]) hf (fun t3 hf => ?_) (fun t3 hf J3 => ?_)
    · try dsimp only at hf ⊢
      refine a_iinc (pc := 94) (j := 2) (v := (x1l.2 + 1)) (lv' := [(0, .ref (a0 0)), (1, .int t3), (2, .int (x1l.2 + 1))]) F [1, 2, 0] dX11_twins_94 rfl ki_1 (by decide) rfl ?_
      refine a_goto (pc := 97) (tgt := 4) F dX11_twins_97 (by decide) ?_
      exact ih1 (t3, (x1l.2 + 1)) hf
    · refine a_loop 19 (fun (x4l : Int32 × Int32) => [(0, .ref (a0 0)), (1, .int x4l.1), (2, .int x1l.2), (3, .int x4l.2)]) (fun (x4l : Int32 × Int32) => [bX11 y a0 z0_tape z0_tokens z0_hillReader z0_lawReader (a1 0) z0_rules z0_diary z0_spare z0_draft z0_spareDiary z0_guess z0_past z0_imageHill z0_imageRules z0_imageDiary v0, bX3 y a1 v1]) (fun rc4 x4l ih4 hf => ?_) hf rfl rfl
      try dsimp only at hf ⊢
      refine a_iloadn (pc := 19) (j := 3) F dX11_twins_19 rfl rfl ?_
      refine a_aloadn (pc := 20) (j := 0) F dX11_twins_20 rfl rfl ?_
      refine a_get (pc := 21) (kb := 0) (j := 0) (f := 7) F iW_X11 rfl rfl rfl (by decide) (tl q2_63) (fun _ h => h) rfl dX11_twins_21 ?_
      refine a_get (pc := 24) (kb := 1) (j := 0) (f := 0) F iW_X3 rfl rfl rfl (by decide) (tl q1_68) (fun _ h => h) rfl dX11_twins_24 ?_
      refine a_icmp_ge (pc := 27) (tgt := 94) F dX11_twins_27 (by decide) (fun h => ?_) (fun h => ?_)
      · replace hf := it_pos h hf
        refine a_sub [0, 1, 2] rfl ?_
        obtain rfl := Option.some.inj hf
        exact J3
      · replace hf := it_neg h hf
        refine a_aloadn (pc := 30) (j := 0) F dX11_twins_30 rfl rfl ?_
        refine a_get (pc := 31) (kb := 0) (j := 0) (f := 7) F iW_X11 rfl rfl rfl (by decide) (tl q2_63) (fun _ h => h) rfl dX11_twins_31 ?_
        refine a_get (pc := 34) (kb := 1) (j := 0) (f := 12) F iW_X3 rfl rfl rfl (by decide) (tl q1_100) (fun _ h => h) rfl dX11_twins_34 ?_
        refine a_iloadn (pc := 37) (j := 2) F dX11_twins_37 rfl rfl ?_
        obtain ⟨h5, hf⟩ := gd_some hf
        refine a_zald (pc := 38) (kb := 1) (j := 4) F rfl rfl h5 dX11_twins_38 ?_
        refine a_join 59 (fun (t6 : Int32) => [(0, .ref (a0 0)), (1, .int x4l.1), (2, .int x1l.2), (3, .int x4l.2)]) (fun (t6 : Int32) => [.int t6]) (fun (t6 : Int32) => [bX11 y a0 z0_tape z0_tokens z0_hillReader z0_lawReader (a1 0) z0_rules z0_diary z0_spare z0_draft z0_spareDiary z0_guess z0_past z0_imageHill z0_imageRules z0_imageDiary v0, bX3 y a1 v1]) hf (fun t6 hf => ?_) (fun t6 hf J6 => ?_)
        · try dsimp only at hf ⊢
          refine a_istore (pc := 59) (lv' := [(0, .ref (a0 0)), (1, .int x4l.1), (2, .int x1l.2), (3, .int x4l.2), (4, .int t6)]) F [1, 2, 3, 4, 0] dX11_twins_59 (by decide) rfl ?_
          refine a_iload (pc := 61) (j := 4) F dX11_twins_61 rfl ?_
          refine a_join 88 (fun (t7 : Int32) => [(0, .ref (a0 0)), (1, .int t7), (2, .int x1l.2), (3, .int x4l.2)]) (fun (t7 : Int32) => []) (fun (t7 : Int32) => [bX11 y a0 z0_tape z0_tokens z0_hillReader z0_lawReader (a1 0) z0_rules z0_diary z0_spare z0_draft z0_spareDiary z0_guess z0_past z0_imageHill z0_imageRules z0_imageDiary v0, bX3 y a1 v1]) hf (fun t7 hf => ?_) (fun t7 hf J7 => ?_)
          · try dsimp only at hf ⊢
            refine a_iinc (pc := 88) (j := 3) (v := (x4l.2 + 1)) (lv' := [(0, .ref (a0 0)), (1, .int t7), (2, .int x1l.2), (3, .int (x4l.2 + 1))]) F [1, 2, 3, 0] dX11_twins_88 rfl ki_1 (by decide) rfl ?_
            refine a_goto (pc := 91) (tgt := 19) F dX11_twins_91 (by decide) ?_
            exact ih4 (t7, (x4l.2 + 1)) hf
          · refine a_if_eq (pc := 63) (tgt := 88) F dX11_twins_63 (by decide) (fun h => ?_) (fun h => ?_)
            · replace hf := it_pos h hf
              refine a_sub [0, 1, 2, 3] rfl ?_
              obtain rfl := Option.some.inj hf
              exact J7
            · replace hf := it_neg h hf
              refine a_aloadn (pc := 66) (j := 0) F dX11_twins_66 rfl rfl ?_
              refine a_get (pc := 67) (kb := 0) (j := 0) (f := 7) F iW_X11 rfl rfl rfl (by decide) (tl q2_63) (fun _ h => h) rfl dX11_twins_67 ?_
              refine a_iloadn (pc := 70) (j := 2) F dX11_twins_70 rfl rfl ?_
              obtain ⟨t8, ht8, hf⟩ := bd_some hf
              refine a_callV (pc := 71) (bs' := [bX11 y a0 z0_tape z0_tokens z0_hillReader z0_lawReader (a1 0) z0_rules z0_diary z0_spare z0_draft z0_spareDiary z0_guess z0_past z0_imageHill z0_imageRules z0_imageDiary v0, bX3 y a1 v1]) (kb := 1) (j := 0) F [1] (c_X3_tiltOf l D y ek n a1 _ _ _ ht8) (cwV 1 F.1.2.2.2.2 (gV q2_188 q2_162 q2_163 q1_3 q2_164) rfl rfl rfl (by decide +kernel) ⟨Nat.le_of_ble_eq_true rfl, Nat.le_of_ble_eq_true rfl⟩) rfl rfl rfl rfl (by decide) rfl rfl rfl rfl rfl rfl (Nat.le_of_ble_eq_true rfl) ⟨Nat.zero_le _, Nat.zero_le _⟩ dX11_twins_71 ?_
              refine a_aloadn (pc := 74) (j := 0) F dX11_twins_74 rfl rfl ?_
              refine a_get (pc := 75) (kb := 0) (j := 0) (f := 7) F iW_X11 rfl rfl rfl (by decide) (tl q2_63) (fun _ h => h) rfl dX11_twins_75 ?_
              refine a_iloadn (pc := 78) (j := 3) F dX11_twins_78 rfl rfl ?_
              obtain ⟨t9, ht9, hf⟩ := bd_some hf
              refine a_callV (pc := 79) (bs' := [bX11 y a0 z0_tape z0_tokens z0_hillReader z0_lawReader (a1 0) z0_rules z0_diary z0_spare z0_draft z0_spareDiary z0_guess z0_past z0_imageHill z0_imageRules z0_imageDiary v0, bX3 y a1 v1]) (kb := 1) (j := 0) F [1] (c_X3_tiltOf l D y ek n a1 _ _ _ ht9) (cwV 1 F.1.2.2.2.2 (gV q2_188 q2_162 q2_163 q1_3 q2_164) rfl rfl rfl (by decide +kernel) ⟨Nat.le_of_ble_eq_true rfl, Nat.le_of_ble_eq_true rfl⟩) rfl rfl rfl rfl (by decide) rfl rfl rfl rfl rfl rfl (Nat.le_of_ble_eq_true rfl) ⟨Nat.zero_le _, Nat.zero_le _⟩ dX11_twins_79 ?_
              refine a_icmp_ne (pc := 82) (tgt := 88) F dX11_twins_82 (by decide) (fun h => ?_) (fun h => ?_)
              · replace hf := it_neg h hf
                refine a_sub [0, 1, 2, 3] rfl ?_
                obtain rfl := Option.some.inj hf
                exact J7
              · replace hf := it_pos h hf
                refine a_iinc (pc := 85) (j := 1) (v := (x4l.1 + 1)) (lv' := [(0, .ref (a0 0)), (1, .int (x4l.1 + 1)), (2, .int x1l.2), (3, .int x4l.2), (4, .int t6)]) F [1, 0, 2, 3, 4] dX11_twins_85 rfl ki_1 (by decide) rfl ?_
                refine a_sub [0, 1, 2, 3] rfl ?_
                obtain rfl := Option.some.inj hf
                exact J7
        · refine a_jn 58 (fun (t10 : Unit) => [(0, .ref (a0 0)), (1, .int x4l.1), (2, .int x1l.2), (3, .int x4l.2)]) (fun (t10 : Unit) => []) (fun (t10 : Unit) => [bX11 y a0 z0_tape z0_tokens z0_hillReader z0_lawReader (a1 0) z0_rules z0_diary z0_spare z0_draft z0_spareDiary z0_guess z0_past z0_imageHill z0_imageRules z0_imageDiary v0, bX3 y a1 v1]) hf (fun t10 hf => ?_) (fun K10 hK10 hf => ?_)
          · try dsimp only at hf ⊢
            refine a_iconst (pc := 58) F dX11_twins_58 kc_0 ?_
            obtain rfl := Option.some.inj hf
            exact J6
          · try dsimp only at hf
            refine a_if_ne (pc := 39) (tgt := 58) F dX11_twins_39 (by decide) (fun h => ?_) (fun h => ?_)
            · replace hf := it_neg h hf
              exact hK10 () hf
            · replace hf := it_pos h hf
              refine a_aloadn (pc := 42) (j := 0) F dX11_twins_42 rfl rfl ?_
              refine a_get (pc := 43) (kb := 0) (j := 0) (f := 7) F iW_X11 rfl rfl rfl (by decide) (tl q2_63) (fun _ h => h) rfl dX11_twins_43 ?_
              refine a_get (pc := 46) (kb := 1) (j := 0) (f := 12) F iW_X3 rfl rfl rfl (by decide) (tl q1_100) (fun _ h => h) rfl dX11_twins_46 ?_
              refine a_iloadn (pc := 49) (j := 3) F dX11_twins_49 rfl rfl ?_
              obtain ⟨h11, hf⟩ := gd_some hf
              refine a_zald (pc := 50) (kb := 1) (j := 4) F rfl rfl h11 dX11_twins_50 ?_
              refine a_if_ne (pc := 51) (tgt := 58) F dX11_twins_51 (by decide) (fun h => ?_) (fun h => ?_)
              · replace hf := it_neg h hf
                exact hK10 () hf
              · replace hf := it_pos h hf
                refine a_iconst (pc := 54) F dX11_twins_54 kc_1 ?_
                refine a_goto (pc := 55) (tgt := 59) F dX11_twins_55 (by decide) ?_
                obtain rfl := Option.some.inj hf
                exact J6

abbrev wX11_rich : List Cond := Cond.code yX11_rich cX11_rich 5 (some .int) :: WALL
def m_X11_rich (n : Nat) (v0 : St) (v1 : St) : Option (Int32) :=
lp (fun (rc1 : Int32 × Int32 × Int32 → Option (Int32)) (x1l : Int32 × Int32 × Int32) =>
bd (m_X3_houses n v1) (fun t2 =>
(if t2 ≤ x1l.2.2 then
some x1l.1
else
(if ix x1l.2.2 10 then bd (m_X3_worthIn n v1 x1l.2.2) (fun t4 =>
nm ((v1 13 (x1l.2.2).toNatClampNeg) + t4) (fun x4_5 =>
bd ((if x4_5 ≤ x1l.2.1 then
some (x1l.1, x1l.2.1)
else
some (x1l.2.2, x4_5))) (fun (t6 : Int32 × Int32) =>
rc1 (t6.1, t6.2, (x1l.2.2 + 1))))) else none)))) n ((-1), (-1), 0)
set_option maxHeartbeats 4000000 in
set_option maxRecDepth 100000 in
theorem c_X11_rich (l : Launch) (D : va_G) (y : Nat → ClassId) (ek : EK) (n : Nat) (a0 : Nat → Nat) (a1 : Nat → Nat) (z0_tape : Nat) (z0_tokens : Nat) (z0_hillReader : Nat) (z0_lawReader : Nat) (z0_rules : Nat) (z0_diary : Nat) (z0_spare : Nat) (z0_draft : Nat) (z0_spareDiary : Nat) (z0_guess : Nat) (z0_past : Nat) (z0_imageHill : Nat) (z0_imageRules : Nat) (z0_imageDiary : Nat) (v0 : St) (v1 : St) (res : Int32) (hf : m_X11_rich n v0 v1 = some res) : CI l yX11_rich wX11_rich { frames := 1, cells := 0, slots := 0, locals := 23 } D y ek [.ref (a0 0)] [bX11 y a0 z0_tape z0_tokens z0_hillReader z0_lawReader (a1 0) z0_rules z0_diary z0_spare z0_draft z0_spareDiary z0_guess z0_past z0_imageHill z0_imageRules z0_imageDiary v0, bX3 y a1 v1] (res) [bX11 y a0 z0_tape z0_tokens z0_hillReader z0_lawReader (a1 0) z0_rules z0_diary z0_spare z0_draft z0_spareDiary z0_guess z0_past z0_imageHill z0_imageRules z0_imageDiary v0, bX3 y a1 v1] 0 0 := by
  unfold m_X11_rich at hf
  refine ci_of (cc := cX11_rich) (maxL := 5) (by decide) rfl rfl (Nat.le_of_ble_eq_true rfl) ?_
  intro p e s m below meth c Q A F hret
  refine a_lv (lv' := [(0, .ref (a0 0))]) rfl ?_
  refine a_iconst (pc := 0) F dX11_rich_0 kc_m1 ?_
  refine a_istoren (pc := 1) (lv' := [(0, .ref (a0 0)), (1, .int (-1))]) F [1, 0] dX11_rich_1 rfl (by decide) rfl ?_
  refine a_iconst (pc := 2) F dX11_rich_2 kc_m1 ?_
  refine a_istoren (pc := 3) (lv' := [(0, .ref (a0 0)), (1, .int (-1)), (2, .int (-1))]) F [1, 2, 0] dX11_rich_3 rfl (by decide) rfl ?_
  refine a_iconst (pc := 4) F dX11_rich_4 kc_0 ?_
  refine a_istoren (pc := 5) (lv' := [(0, .ref (a0 0)), (1, .int (-1)), (2, .int (-1)), (3, .int 0)]) F [1, 2, 3, 0] dX11_rich_5 rfl (by decide) rfl ?_
  refine a_loop 6 (fun (x1l : Int32 × Int32 × Int32) => [(0, .ref (a0 0)), (1, .int x1l.1), (2, .int x1l.2.1), (3, .int x1l.2.2)]) (fun (x1l : Int32 × Int32 × Int32) => [bX11 y a0 z0_tape z0_tokens z0_hillReader z0_lawReader (a1 0) z0_rules z0_diary z0_spare z0_draft z0_spareDiary z0_guess z0_past z0_imageHill z0_imageRules z0_imageDiary v0, bX3 y a1 v1]) (fun rc1 x1l ih1 hf => ?_) hf rfl rfl
  try dsimp only at hf ⊢
  refine a_iloadn (pc := 6) (j := 3) F dX11_rich_6 rfl rfl ?_
  refine a_aloadn (pc := 7) (j := 0) F dX11_rich_7 rfl rfl ?_
  refine a_get (pc := 8) (kb := 0) (j := 0) (f := 7) F iW_X11 rfl rfl rfl (by decide) (tl q2_63) (fun _ h => h) rfl dX11_rich_8 ?_
  obtain ⟨t2, ht2, hf⟩ := bd_some hf
  refine a_callV (pc := 11) (bs' := [bX11 y a0 z0_tape z0_tokens z0_hillReader z0_lawReader (a1 0) z0_rules z0_diary z0_spare z0_draft z0_spareDiary z0_guess z0_past z0_imageHill z0_imageRules z0_imageDiary v0, bX3 y a1 v1]) (kb := 1) (j := 0) F [1] (c_X3_houses l D y ek n a1 _ _ ht2) (cwV 0 F.1.2.2.2.2 (gV q2_179 q2_158 q2_159 q1_3 q2_160) rfl rfl rfl (by decide +kernel) ⟨Nat.le_of_ble_eq_true rfl, Nat.le_of_ble_eq_true rfl⟩) rfl rfl rfl rfl (by decide) rfl rfl rfl rfl rfl rfl (Nat.le_of_ble_eq_true rfl) ⟨Nat.zero_le _, Nat.zero_le _⟩ dX11_rich_11 ?_
  refine a_icmp_ge (pc := 14) (tgt := 54) F dX11_rich_14 (by decide) (fun h => ?_) (fun h => ?_)
  · replace hf := it_pos h hf
    refine a_iloadn (pc := 54) (j := 1) F dX11_rich_54 rfl rfl ?_
    obtain rfl := Option.some.inj hf
    exact hret _ _ _ _ (Nat.zero_le _) (Nat.zero_le _) rfl dX11_rich_55
  · replace hf := it_neg h hf
    refine a_aloadn (pc := 17) (j := 0) F dX11_rich_17 rfl rfl ?_
    refine a_get (pc := 18) (kb := 0) (j := 0) (f := 7) F iW_X11 rfl rfl rfl (by decide) (tl q2_63) (fun _ h => h) rfl dX11_rich_18 ?_
    refine a_get (pc := 21) (kb := 1) (j := 0) (f := 13) F iW_X3 rfl rfl rfl (by decide) (tl q1_103) (fun _ h => h) rfl dX11_rich_21 ?_
    refine a_iloadn (pc := 24) (j := 3) F dX11_rich_24 rfl rfl ?_
    obtain ⟨h3, hf⟩ := gd_some hf
    refine a_iald (pc := 25) (kb := 1) (j := 5) F rfl rfl h3 dX11_rich_25 ?_
    refine a_aloadn (pc := 26) (j := 0) F dX11_rich_26 rfl rfl ?_
    refine a_get (pc := 27) (kb := 0) (j := 0) (f := 7) F iW_X11 rfl rfl rfl (by decide) (tl q2_63) (fun _ h => h) rfl dX11_rich_27 ?_
    refine a_iloadn (pc := 30) (j := 3) F dX11_rich_30 rfl rfl ?_
    obtain ⟨t4, ht4, hf⟩ := bd_some hf
    refine a_callV (pc := 31) (bs' := [bX11 y a0 z0_tape z0_tokens z0_hillReader z0_lawReader (a1 0) z0_rules z0_diary z0_spare z0_draft z0_spareDiary z0_guess z0_past z0_imageHill z0_imageRules z0_imageDiary v0, bX3 y a1 v1]) (kb := 1) (j := 0) F [1] (c_X3_worthIn l D y ek n a1 _ _ _ ht4) (cwV 1 F.1.2.2.2.2 (gV q3_34 q3_6 q3_7 q1_3 q3_8) rfl rfl rfl (by decide +kernel) ⟨Nat.le_of_ble_eq_true rfl, Nat.le_of_ble_eq_true rfl⟩) rfl rfl rfl rfl (by decide) rfl rfl rfl rfl rfl rfl (Nat.le_of_ble_eq_true rfl) ⟨Nat.zero_le _, Nat.zero_le _⟩ dX11_rich_31 ?_
    refine a_iadd (pc := 34) F dX11_rich_34 ?_
    obtain ⟨x4_5, ex4_5, hf⟩ := nm_some hf
    refine a_nmi ex4_5 ?_
    refine a_istore (pc := 35) (lv' := [(0, .ref (a0 0)), (1, .int x1l.1), (2, .int x1l.2.1), (3, .int x1l.2.2), (4, .int x4_5)]) F [1, 2, 3, 4, 0] dX11_rich_35 (by decide) rfl ?_
    refine a_iload (pc := 37) (j := 4) F dX11_rich_37 rfl ?_
    refine a_iloadn (pc := 39) (j := 2) F dX11_rich_39 rfl rfl ?_
    refine a_join 48 (fun (t6 : Int32 × Int32) => [(0, .ref (a0 0)), (1, .int t6.1), (2, .int t6.2), (3, .int x1l.2.2)]) (fun (t6 : Int32 × Int32) => []) (fun (t6 : Int32 × Int32) => [bX11 y a0 z0_tape z0_tokens z0_hillReader z0_lawReader (a1 0) z0_rules z0_diary z0_spare z0_draft z0_spareDiary z0_guess z0_past z0_imageHill z0_imageRules z0_imageDiary v0, bX3 y a1 v1]) hf (fun t6 hf => ?_) (fun t6 hf J6 => ?_)
    · try dsimp only at hf ⊢
      refine a_iinc (pc := 48) (j := 3) (v := (x1l.2.2 + 1)) (lv' := [(0, .ref (a0 0)), (1, .int t6.1), (2, .int t6.2), (3, .int (x1l.2.2 + 1))]) F [1, 2, 3, 0] dX11_rich_48 rfl ki_1 (by decide) rfl ?_
      refine a_goto (pc := 51) (tgt := 6) F dX11_rich_51 (by decide) ?_
      exact ih1 (t6.1, t6.2, (x1l.2.2 + 1)) hf
    · refine a_icmp_le (pc := 40) (tgt := 48) F dX11_rich_40 (by decide) (fun h => ?_) (fun h => ?_)
      · replace hf := it_pos h hf
        refine a_sub [0, 1, 2, 3] rfl ?_
        obtain rfl := Option.some.inj hf
        exact J6
      · replace hf := it_neg h hf
        refine a_iloadn (pc := 43) (j := 3) F dX11_rich_43 rfl rfl ?_
        refine a_istoren (pc := 44) (lv' := [(0, .ref (a0 0)), (1, .int x1l.2.2), (2, .int x1l.2.1), (3, .int x1l.2.2), (4, .int x4_5)]) F [1, 0, 2, 3, 4] dX11_rich_44 rfl (by decide) rfl ?_
        refine a_iload (pc := 45) (j := 4) F dX11_rich_45 rfl ?_
        refine a_istoren (pc := 47) (lv' := [(0, .ref (a0 0)), (1, .int x1l.2.2), (2, .int x4_5), (3, .int x1l.2.2), (4, .int x4_5)]) F [1, 2, 0, 3, 4] dX11_rich_47 rfl (by decide) rfl ?_
        refine a_sub [0, 1, 2, 3] rfl ?_
        obtain rfl := Option.some.inj hf
        exact J6

abbrev wX11_heaviest : List Cond := Cond.code yX11_heaviest cX11_heaviest 4 (some .int) :: WALL
def m_X11_heaviest (n : Nat) (v0 : St) (v1 : St) : Option (Int32) :=
lp (fun (rc1 : Int32 × Int32 × Int32 → Option (Int32)) (x1l : Int32 × Int32 × Int32) =>
(if (v1 1 0) ≤ x1l.2.2 then
some x1l.1
else
(if ix x1l.2.2 10 then bd ((if (v1 17 (x1l.2.2).toNatClampNeg) = (-1) then
some (x1l.1, x1l.2.1)
else
(if ix x1l.2.2 10 then (if (v1 15 (x1l.2.2).toNatClampNeg) ≤ x1l.2.1 then
some (x1l.1, x1l.2.1)
else
(if ix x1l.2.2 10 then nm (v1 15 (x1l.2.2).toNatClampNeg) (fun x2_6 =>
some (x1l.2.2, x2_6)) else none)) else none))) (fun (t3 : Int32 × Int32) =>
rc1 (t3.1, t3.2, (x1l.2.2 + 1))) else none))) n ((-1), (-1), 0)
set_option maxHeartbeats 4000000 in
set_option maxRecDepth 100000 in
theorem c_X11_heaviest (l : Launch) (D : va_G) (y : Nat → ClassId) (ek : EK) (n : Nat) (a0 : Nat → Nat) (a1 : Nat → Nat) (z0_tape : Nat) (z0_tokens : Nat) (z0_hillReader : Nat) (z0_lawReader : Nat) (z0_rules : Nat) (z0_diary : Nat) (z0_spare : Nat) (z0_draft : Nat) (z0_spareDiary : Nat) (z0_guess : Nat) (z0_past : Nat) (z0_imageHill : Nat) (z0_imageRules : Nat) (z0_imageDiary : Nat) (v0 : St) (v1 : St) (res : Int32) (hf : m_X11_heaviest n v0 v1 = some res) : CI l yX11_heaviest wX11_heaviest { frames := 0, cells := 0, slots := 0, locals := 0 } D y ek [.ref (a0 0)] [bX11 y a0 z0_tape z0_tokens z0_hillReader z0_lawReader (a1 0) z0_rules z0_diary z0_spare z0_draft z0_spareDiary z0_guess z0_past z0_imageHill z0_imageRules z0_imageDiary v0, bX3 y a1 v1] (res) [bX11 y a0 z0_tape z0_tokens z0_hillReader z0_lawReader (a1 0) z0_rules z0_diary z0_spare z0_draft z0_spareDiary z0_guess z0_past z0_imageHill z0_imageRules z0_imageDiary v0, bX3 y a1 v1] 0 0 := by
  unfold m_X11_heaviest at hf
  refine ci_of (cc := cX11_heaviest) (maxL := 4) (by decide) rfl rfl (Nat.le_of_ble_eq_true rfl) ?_
  intro p e s m below meth c Q A F hret
  refine a_lv (lv' := [(0, .ref (a0 0))]) rfl ?_
  refine a_iconst (pc := 0) F dX11_heaviest_0 kc_m1 ?_
  refine a_istoren (pc := 1) (lv' := [(0, .ref (a0 0)), (1, .int (-1))]) F [1, 0] dX11_heaviest_1 rfl (by decide) rfl ?_
  refine a_iconst (pc := 2) F dX11_heaviest_2 kc_m1 ?_
  refine a_istoren (pc := 3) (lv' := [(0, .ref (a0 0)), (1, .int (-1)), (2, .int (-1))]) F [1, 2, 0] dX11_heaviest_3 rfl (by decide) rfl ?_
  refine a_iconst (pc := 4) F dX11_heaviest_4 kc_0 ?_
  refine a_istoren (pc := 5) (lv' := [(0, .ref (a0 0)), (1, .int (-1)), (2, .int (-1)), (3, .int 0)]) F [1, 2, 3, 0] dX11_heaviest_5 rfl (by decide) rfl ?_
  refine a_loop 6 (fun (x1l : Int32 × Int32 × Int32) => [(0, .ref (a0 0)), (1, .int x1l.1), (2, .int x1l.2.1), (3, .int x1l.2.2)]) (fun (x1l : Int32 × Int32 × Int32) => [bX11 y a0 z0_tape z0_tokens z0_hillReader z0_lawReader (a1 0) z0_rules z0_diary z0_spare z0_draft z0_spareDiary z0_guess z0_past z0_imageHill z0_imageRules z0_imageDiary v0, bX3 y a1 v1]) (fun rc1 x1l ih1 hf => ?_) hf rfl rfl
  try dsimp only at hf ⊢
  refine a_iloadn (pc := 6) (j := 3) F dX11_heaviest_6 rfl rfl ?_
  refine a_aloadn (pc := 7) (j := 0) F dX11_heaviest_7 rfl rfl ?_
  refine a_get (pc := 8) (kb := 0) (j := 0) (f := 7) F iW_X11 rfl rfl rfl (by decide) (tl q2_63) (fun _ h => h) rfl dX11_heaviest_8 ?_
  refine a_get (pc := 11) (kb := 1) (j := 0) (f := 1) F iW_X3 rfl rfl rfl (by decide) (tl q1_72) (fun _ h => h) rfl dX11_heaviest_11 ?_
  refine a_icmp_ge (pc := 14) (tgt := 61) F dX11_heaviest_14 (by decide) (fun h => ?_) (fun h => ?_)
  · replace hf := it_pos h hf
    refine a_iloadn (pc := 61) (j := 1) F dX11_heaviest_61 rfl rfl ?_
    obtain rfl := Option.some.inj hf
    exact hret _ _ _ _ (Nat.zero_le _) (Nat.zero_le _) rfl dX11_heaviest_62
  · replace hf := it_neg h hf
    refine a_aloadn (pc := 17) (j := 0) F dX11_heaviest_17 rfl rfl ?_
    refine a_get (pc := 18) (kb := 0) (j := 0) (f := 7) F iW_X11 rfl rfl rfl (by decide) (tl q2_63) (fun _ h => h) rfl dX11_heaviest_18 ?_
    refine a_get (pc := 21) (kb := 1) (j := 0) (f := 17) F iW_X3 rfl rfl rfl (by decide) (tl q1_114) (fun _ h => h) rfl dX11_heaviest_21 ?_
    refine a_iloadn (pc := 24) (j := 3) F dX11_heaviest_24 rfl rfl ?_
    obtain ⟨h2, hf⟩ := gd_some hf
    refine a_iald (pc := 25) (kb := 1) (j := 9) F rfl rfl h2 dX11_heaviest_25 ?_
    refine a_iconst (pc := 26) F dX11_heaviest_26 kc_m1 ?_
    refine a_join 55 (fun (t3 : Int32 × Int32) => [(0, .ref (a0 0)), (1, .int t3.1), (2, .int t3.2), (3, .int x1l.2.2)]) (fun (t3 : Int32 × Int32) => []) (fun (t3 : Int32 × Int32) => [bX11 y a0 z0_tape z0_tokens z0_hillReader z0_lawReader (a1 0) z0_rules z0_diary z0_spare z0_draft z0_spareDiary z0_guess z0_past z0_imageHill z0_imageRules z0_imageDiary v0, bX3 y a1 v1]) hf (fun t3 hf => ?_) (fun t3 hf J3 => ?_)
    · try dsimp only at hf ⊢
      refine a_iinc (pc := 55) (j := 3) (v := (x1l.2.2 + 1)) (lv' := [(0, .ref (a0 0)), (1, .int t3.1), (2, .int t3.2), (3, .int (x1l.2.2 + 1))]) F [1, 2, 3, 0] dX11_heaviest_55 rfl ki_1 (by decide) rfl ?_
      refine a_goto (pc := 58) (tgt := 6) F dX11_heaviest_58 (by decide) ?_
      exact ih1 (t3.1, t3.2, (x1l.2.2 + 1)) hf
    · refine a_icmp_eq (pc := 27) (tgt := 55) F dX11_heaviest_27 (by decide) (fun h => ?_) (fun h => ?_)
      · replace hf := it_pos h hf
        obtain rfl := Option.some.inj hf
        exact J3
      · replace hf := it_neg h hf
        refine a_aloadn (pc := 30) (j := 0) F dX11_heaviest_30 rfl rfl ?_
        refine a_get (pc := 31) (kb := 0) (j := 0) (f := 7) F iW_X11 rfl rfl rfl (by decide) (tl q2_63) (fun _ h => h) rfl dX11_heaviest_31 ?_
        refine a_get (pc := 34) (kb := 1) (j := 0) (f := 15) F iW_X3 rfl rfl rfl (by decide) (tl q1_109) (fun _ h => h) rfl dX11_heaviest_34 ?_
        refine a_iloadn (pc := 37) (j := 3) F dX11_heaviest_37 rfl rfl ?_
        obtain ⟨h4, hf⟩ := gd_some hf
        refine a_iald (pc := 38) (kb := 1) (j := 7) F rfl rfl h4 dX11_heaviest_38 ?_
        refine a_iloadn (pc := 39) (j := 2) F dX11_heaviest_39 rfl rfl ?_
        refine a_icmp_le (pc := 40) (tgt := 55) F dX11_heaviest_40 (by decide) (fun h => ?_) (fun h => ?_)
        · replace hf := it_pos h hf
          obtain rfl := Option.some.inj hf
          exact J3
        · replace hf := it_neg h hf
          refine a_iloadn (pc := 43) (j := 3) F dX11_heaviest_43 rfl rfl ?_
          refine a_istoren (pc := 44) (lv' := [(0, .ref (a0 0)), (1, .int x1l.2.2), (2, .int x1l.2.1), (3, .int x1l.2.2)]) F [1, 0, 2, 3] dX11_heaviest_44 rfl (by decide) rfl ?_
          refine a_aloadn (pc := 45) (j := 0) F dX11_heaviest_45 rfl rfl ?_
          refine a_get (pc := 46) (kb := 0) (j := 0) (f := 7) F iW_X11 rfl rfl rfl (by decide) (tl q2_63) (fun _ h => h) rfl dX11_heaviest_46 ?_
          refine a_get (pc := 49) (kb := 1) (j := 0) (f := 15) F iW_X3 rfl rfl rfl (by decide) (tl q1_109) (fun _ h => h) rfl dX11_heaviest_49 ?_
          refine a_iloadn (pc := 52) (j := 3) F dX11_heaviest_52 rfl rfl ?_
          obtain ⟨h5, hf⟩ := gd_some hf
          refine a_iald (pc := 53) (kb := 1) (j := 7) F rfl rfl h5 dX11_heaviest_53 ?_
          obtain ⟨x2_6, ex2_6, hf⟩ := nm_some hf
          refine a_nmi ex2_6 ?_
          refine a_istoren (pc := 54) (lv' := [(0, .ref (a0 0)), (1, .int x1l.2.2), (2, .int x2_6), (3, .int x1l.2.2)]) F [1, 2, 0, 3] dX11_heaviest_54 rfl (by decide) rfl ?_
          obtain rfl := Option.some.inj hf
          exact J3

abbrev wX11_alike : List Cond := Cond.code yX11_alike cX11_alike 4 (some .int) :: WALL
def m_X11_alike (n : Nat) (v0 : St) (v1 : St) : Option (Int32) :=
lp (fun (rc1 : Int32 × Int32 → Option (Int32)) (x1l : Int32 × Int32) =>
bd (m_X3_houses n v1) (fun t2 =>
(if t2 ≤ x1l.2 then
some x1l.1
else
nm (x1l.2 + 1) (fun x3_3 =>
bd (lp (fun (rc5 : Int32 × Int32 → Option (Int32)) (x5l : Int32 × Int32) =>
bd (m_X3_houses n v1) (fun t6 =>
(if t6 ≤ x5l.2 then
some x5l.1
else
(if ix x1l.2 10 then (if ix x5l.2 10 then bd ((if (v1 18 (x1l.2).toNatClampNeg) = (v1 18 (x5l.2).toNatClampNeg) then
(if ix x1l.2 10 then (if ix x5l.2 10 then (if (v1 19 (x1l.2).toNatClampNeg) = (v1 19 (x5l.2).toNatClampNeg) then
some (x5l.1 + 1)
else
some x5l.1) else none) else none)
else
some x5l.1)) (fun (t9 : Int32) =>
rc5 (t9, (x5l.2 + 1))) else none) else none)))) n (x1l.1, x3_3)) (fun (t4 : Int32) =>
rc1 (t4, (x1l.2 + 1))))))) n (0, 0)
set_option maxHeartbeats 4000000 in
set_option maxRecDepth 100000 in
theorem c_X11_alike (l : Launch) (D : va_G) (y : Nat → ClassId) (ek : EK) (n : Nat) (a0 : Nat → Nat) (a1 : Nat → Nat) (z0_tape : Nat) (z0_tokens : Nat) (z0_hillReader : Nat) (z0_lawReader : Nat) (z0_rules : Nat) (z0_diary : Nat) (z0_spare : Nat) (z0_draft : Nat) (z0_spareDiary : Nat) (z0_guess : Nat) (z0_past : Nat) (z0_imageHill : Nat) (z0_imageRules : Nat) (z0_imageDiary : Nat) (v0 : St) (v1 : St) (res : Int32) (hf : m_X11_alike n v0 v1 = some res) : CI l yX11_alike wX11_alike { frames := 1, cells := 0, slots := 0, locals := 20 } D y ek [.ref (a0 0)] [bX11 y a0 z0_tape z0_tokens z0_hillReader z0_lawReader (a1 0) z0_rules z0_diary z0_spare z0_draft z0_spareDiary z0_guess z0_past z0_imageHill z0_imageRules z0_imageDiary v0, bX3 y a1 v1] (res) [bX11 y a0 z0_tape z0_tokens z0_hillReader z0_lawReader (a1 0) z0_rules z0_diary z0_spare z0_draft z0_spareDiary z0_guess z0_past z0_imageHill z0_imageRules z0_imageDiary v0, bX3 y a1 v1] 0 0 := by
  unfold m_X11_alike at hf
  refine ci_of (cc := cX11_alike) (maxL := 4) (by decide) rfl rfl (Nat.le_of_ble_eq_true rfl) ?_
  intro p e s m below meth c Q A F hret
  refine a_lv (lv' := [(0, .ref (a0 0))]) rfl ?_
  refine a_iconst (pc := 0) F dX11_alike_0 kc_0 ?_
  refine a_istoren (pc := 1) (lv' := [(0, .ref (a0 0)), (1, .int 0)]) F [1, 0] dX11_alike_1 rfl (by decide) rfl ?_
  refine a_iconst (pc := 2) F dX11_alike_2 kc_0 ?_
  refine a_istoren (pc := 3) (lv' := [(0, .ref (a0 0)), (1, .int 0), (2, .int 0)]) F [1, 2, 0] dX11_alike_3 rfl (by decide) rfl ?_
  refine a_loop 4 (fun (x1l : Int32 × Int32) => [(0, .ref (a0 0)), (1, .int x1l.1), (2, .int x1l.2)]) (fun (x1l : Int32 × Int32) => [bX11 y a0 z0_tape z0_tokens z0_hillReader z0_lawReader (a1 0) z0_rules z0_diary z0_spare z0_draft z0_spareDiary z0_guess z0_past z0_imageHill z0_imageRules z0_imageDiary v0, bX3 y a1 v1]) (fun rc1 x1l ih1 hf => ?_) hf rfl rfl
  try dsimp only at hf ⊢
  refine a_iloadn (pc := 4) (j := 2) F dX11_alike_4 rfl rfl ?_
  refine a_aloadn (pc := 5) (j := 0) F dX11_alike_5 rfl rfl ?_
  refine a_get (pc := 6) (kb := 0) (j := 0) (f := 7) F iW_X11 rfl rfl rfl (by decide) (tl q2_63) (fun _ h => h) rfl dX11_alike_6 ?_
  obtain ⟨t2, ht2, hf⟩ := bd_some hf
  refine a_callV (pc := 9) (bs' := [bX11 y a0 z0_tape z0_tokens z0_hillReader z0_lawReader (a1 0) z0_rules z0_diary z0_spare z0_draft z0_spareDiary z0_guess z0_past z0_imageHill z0_imageRules z0_imageDiary v0, bX3 y a1 v1]) (kb := 1) (j := 0) F [1] (c_X3_houses l D y ek n a1 _ _ ht2) (cwV 0 F.1.2.2.2.2 (gV q2_179 q2_158 q2_159 q1_3 q2_160) rfl rfl rfl (by decide +kernel) ⟨Nat.le_of_ble_eq_true rfl, Nat.le_of_ble_eq_true rfl⟩) rfl rfl rfl rfl (by decide) rfl rfl rfl rfl rfl rfl (Nat.le_of_ble_eq_true rfl) ⟨Nat.zero_le _, Nat.zero_le _⟩ dX11_alike_9 ?_
  refine a_icmp_ge (pc := 12) (tgt := 87) F dX11_alike_12 (by decide) (fun h => ?_) (fun h => ?_)
  · replace hf := it_pos h hf
    refine a_iloadn (pc := 87) (j := 1) F dX11_alike_87 rfl rfl ?_
    obtain rfl := Option.some.inj hf
    exact hret _ _ _ _ (Nat.zero_le _) (Nat.zero_le _) rfl dX11_alike_88
  · replace hf := it_neg h hf
    refine a_iloadn (pc := 15) (j := 2) F dX11_alike_15 rfl rfl ?_
    refine a_iconst (pc := 16) F dX11_alike_16 kc_1 ?_
    refine a_iadd (pc := 17) F dX11_alike_17 ?_
    obtain ⟨x3_3, ex3_3, hf⟩ := nm_some hf
    refine a_nmi ex3_3 ?_
    refine a_istoren (pc := 18) (lv' := [(0, .ref (a0 0)), (1, .int x1l.1), (2, .int x1l.2), (3, .int x3_3)]) F [1, 2, 3, 0] dX11_alike_18 rfl (by decide) rfl ?_
    refine a_join 81 (fun (t4 : Int32) => [(0, .ref (a0 0)), (1, .int t4), (2, .int x1l.2)]) (fun (t4 : Int32) => []) (fun (t4 : Int32) => [bX11 y a0 z0_tape z0_tokens z0_hillReader z0_lawReader (a1 0) z0_rules z0_diary z0_spare z0_draft z0_spareDiary z0_guess z0_past z0_imageHill z0_imageRules z0_imageDiary v0, bX3 y a1 v1]) hf (fun t4 hf => ?_) (fun t4 hf J4 => ?_)
    · try dsimp only at hf ⊢
      refine a_iinc (pc := 81) (j := 2) (v := (x1l.2 + 1)) (lv' := [(0, .ref (a0 0)), (1, .int t4), (2, .int (x1l.2 + 1))]) F [1, 2, 0] dX11_alike_81 rfl ki_1 (by decide) rfl ?_
      refine a_goto (pc := 84) (tgt := 4) F dX11_alike_84 (by decide) ?_
      exact ih1 (t4, (x1l.2 + 1)) hf
    · refine a_loop 19 (fun (x5l : Int32 × Int32) => [(0, .ref (a0 0)), (1, .int x5l.1), (2, .int x1l.2), (3, .int x5l.2)]) (fun (x5l : Int32 × Int32) => [bX11 y a0 z0_tape z0_tokens z0_hillReader z0_lawReader (a1 0) z0_rules z0_diary z0_spare z0_draft z0_spareDiary z0_guess z0_past z0_imageHill z0_imageRules z0_imageDiary v0, bX3 y a1 v1]) (fun rc5 x5l ih5 hf => ?_) hf rfl rfl
      try dsimp only at hf ⊢
      refine a_iloadn (pc := 19) (j := 3) F dX11_alike_19 rfl rfl ?_
      refine a_aloadn (pc := 20) (j := 0) F dX11_alike_20 rfl rfl ?_
      refine a_get (pc := 21) (kb := 0) (j := 0) (f := 7) F iW_X11 rfl rfl rfl (by decide) (tl q2_63) (fun _ h => h) rfl dX11_alike_21 ?_
      obtain ⟨t6, ht6, hf⟩ := bd_some hf
      refine a_callV (pc := 24) (bs' := [bX11 y a0 z0_tape z0_tokens z0_hillReader z0_lawReader (a1 0) z0_rules z0_diary z0_spare z0_draft z0_spareDiary z0_guess z0_past z0_imageHill z0_imageRules z0_imageDiary v0, bX3 y a1 v1]) (kb := 1) (j := 0) F [1] (c_X3_houses l D y ek n a1 _ _ ht6) (cwV 0 F.1.2.2.2.2 (gV q2_179 q2_158 q2_159 q1_3 q2_160) rfl rfl rfl (by decide +kernel) ⟨Nat.le_of_ble_eq_true rfl, Nat.le_of_ble_eq_true rfl⟩) rfl rfl rfl rfl (by decide) rfl rfl rfl rfl rfl rfl (Nat.le_of_ble_eq_true rfl) ⟨Nat.zero_le _, Nat.zero_le _⟩ dX11_alike_24 ?_
      refine a_icmp_ge (pc := 27) (tgt := 81) F dX11_alike_27 (by decide) (fun h => ?_) (fun h => ?_)
      · replace hf := it_pos h hf
        refine a_sub [0, 1, 2] rfl ?_
        obtain rfl := Option.some.inj hf
        exact J4
      · replace hf := it_neg h hf
        refine a_aloadn (pc := 30) (j := 0) F dX11_alike_30 rfl rfl ?_
        refine a_get (pc := 31) (kb := 0) (j := 0) (f := 7) F iW_X11 rfl rfl rfl (by decide) (tl q2_63) (fun _ h => h) rfl dX11_alike_31 ?_
        refine a_get (pc := 34) (kb := 1) (j := 0) (f := 18) F iW_X3 rfl rfl rfl (by decide) (tl q1_118) (fun _ h => h) rfl dX11_alike_34 ?_
        refine a_iloadn (pc := 37) (j := 2) F dX11_alike_37 rfl rfl ?_
        obtain ⟨h7, hf⟩ := gd_some hf
        refine a_iald (pc := 38) (kb := 1) (j := 10) F rfl rfl h7 dX11_alike_38 ?_
        refine a_aloadn (pc := 39) (j := 0) F dX11_alike_39 rfl rfl ?_
        refine a_get (pc := 40) (kb := 0) (j := 0) (f := 7) F iW_X11 rfl rfl rfl (by decide) (tl q2_63) (fun _ h => h) rfl dX11_alike_40 ?_
        refine a_get (pc := 43) (kb := 1) (j := 0) (f := 18) F iW_X3 rfl rfl rfl (by decide) (tl q1_118) (fun _ h => h) rfl dX11_alike_43 ?_
        refine a_iloadn (pc := 46) (j := 3) F dX11_alike_46 rfl rfl ?_
        obtain ⟨h8, hf⟩ := gd_some hf
        refine a_iald (pc := 47) (kb := 1) (j := 10) F rfl rfl h8 dX11_alike_47 ?_
        refine a_join 75 (fun (t9 : Int32) => [(0, .ref (a0 0)), (1, .int t9), (2, .int x1l.2), (3, .int x5l.2)]) (fun (t9 : Int32) => []) (fun (t9 : Int32) => [bX11 y a0 z0_tape z0_tokens z0_hillReader z0_lawReader (a1 0) z0_rules z0_diary z0_spare z0_draft z0_spareDiary z0_guess z0_past z0_imageHill z0_imageRules z0_imageDiary v0, bX3 y a1 v1]) hf (fun t9 hf => ?_) (fun t9 hf J9 => ?_)
        · try dsimp only at hf ⊢
          refine a_iinc (pc := 75) (j := 3) (v := (x5l.2 + 1)) (lv' := [(0, .ref (a0 0)), (1, .int t9), (2, .int x1l.2), (3, .int (x5l.2 + 1))]) F [1, 2, 3, 0] dX11_alike_75 rfl ki_1 (by decide) rfl ?_
          refine a_goto (pc := 78) (tgt := 19) F dX11_alike_78 (by decide) ?_
          exact ih5 (t9, (x5l.2 + 1)) hf
        · refine a_icmp_ne (pc := 48) (tgt := 75) F dX11_alike_48 (by decide) (fun h => ?_) (fun h => ?_)
          · replace hf := it_neg h hf
            obtain rfl := Option.some.inj hf
            exact J9
          · replace hf := it_pos h hf
            refine a_aloadn (pc := 51) (j := 0) F dX11_alike_51 rfl rfl ?_
            refine a_get (pc := 52) (kb := 0) (j := 0) (f := 7) F iW_X11 rfl rfl rfl (by decide) (tl q2_63) (fun _ h => h) rfl dX11_alike_52 ?_
            refine a_get (pc := 55) (kb := 1) (j := 0) (f := 19) F iW_X3 rfl rfl rfl (by decide) (tl q1_120) (fun _ h => h) rfl dX11_alike_55 ?_
            refine a_iloadn (pc := 58) (j := 2) F dX11_alike_58 rfl rfl ?_
            obtain ⟨h10, hf⟩ := gd_some hf
            refine a_iald (pc := 59) (kb := 1) (j := 11) F rfl rfl h10 dX11_alike_59 ?_
            refine a_aloadn (pc := 60) (j := 0) F dX11_alike_60 rfl rfl ?_
            refine a_get (pc := 61) (kb := 0) (j := 0) (f := 7) F iW_X11 rfl rfl rfl (by decide) (tl q2_63) (fun _ h => h) rfl dX11_alike_61 ?_
            refine a_get (pc := 64) (kb := 1) (j := 0) (f := 19) F iW_X3 rfl rfl rfl (by decide) (tl q1_120) (fun _ h => h) rfl dX11_alike_64 ?_
            refine a_iloadn (pc := 67) (j := 3) F dX11_alike_67 rfl rfl ?_
            obtain ⟨h11, hf⟩ := gd_some hf
            refine a_iald (pc := 68) (kb := 1) (j := 11) F rfl rfl h11 dX11_alike_68 ?_
            refine a_icmp_ne (pc := 69) (tgt := 75) F dX11_alike_69 (by decide) (fun h => ?_) (fun h => ?_)
            · replace hf := it_neg h hf
              obtain rfl := Option.some.inj hf
              exact J9
            · replace hf := it_pos h hf
              refine a_iinc (pc := 72) (j := 1) (v := (x5l.1 + 1)) (lv' := [(0, .ref (a0 0)), (1, .int (x5l.1 + 1)), (2, .int x1l.2), (3, .int x5l.2)]) F [1, 0, 2, 3] dX11_alike_72 rfl ki_1 (by decide) rfl ?_
              obtain rfl := Option.some.inj hf
              exact J9

abbrev wX11_thief : List Cond := Cond.code yX11_thief cX11_thief 1 (some .int) :: WALL
def m_X11_thief (n : Nat) (v0 : St) (v1 : St) (v2 : St) : Option (Int32 × St) :=
bd (m_X3_luredTo n v1 v2 0) (fun t1 =>
some (t1.1, t1.2))
set_option maxHeartbeats 4000000 in
set_option maxRecDepth 100000 in
theorem c_X11_thief (l : Launch) (D : va_G) (y : Nat → ClassId) (ek : EK) (n : Nat) (a0 : Nat → Nat) (a1 : Nat → Nat) (a2 : Nat → Nat) (z0_tape : Nat) (z0_tokens : Nat) (z0_hillReader : Nat) (z0_lawReader : Nat) (z0_diary : Nat) (z0_spare : Nat) (z0_draft : Nat) (z0_spareDiary : Nat) (z0_guess : Nat) (z0_past : Nat) (z0_imageHill : Nat) (z0_imageRules : Nat) (z0_imageDiary : Nat) (v0 : St) (v1 : St) (v2 : St) (res : Int32 × St) (hf : m_X11_thief n v0 v1 v2 = some res) : CI l yX11_thief wX11_thief { frames := 5, cells := 0, slots := 0, locals := 124 } D y ek [.ref (a0 0)] [bX11 y a0 z0_tape z0_tokens z0_hillReader z0_lawReader (a1 0) (a2 0) z0_diary z0_spare z0_draft z0_spareDiary z0_guess z0_past z0_imageHill z0_imageRules z0_imageDiary v0, bX3 y a1 v1, bX5 y a2 v2] (res.1) [bX11 y a0 z0_tape z0_tokens z0_hillReader z0_lawReader (a1 0) (a2 0) z0_diary z0_spare z0_draft z0_spareDiary z0_guess z0_past z0_imageHill z0_imageRules z0_imageDiary v0, bX3 y a1 v1, bX5 y a2 res.2] 0 0 := by
  unfold m_X11_thief at hf
  refine ci_of (cc := cX11_thief) (maxL := 1) (by decide) rfl rfl (Nat.le_of_ble_eq_true rfl) ?_
  intro p e s m below meth c Q A F hret
  refine a_lv (lv' := [(0, .ref (a0 0))]) rfl ?_
  refine a_aloadn (pc := 0) (j := 0) F dX11_thief_0 rfl rfl ?_
  refine a_get (pc := 1) (kb := 0) (j := 0) (f := 7) F iW_X11 rfl rfl rfl (by decide) (tl q2_63) (fun _ h => h) rfl dX11_thief_1 ?_
  refine a_aloadn (pc := 4) (j := 0) F dX11_thief_4 rfl rfl ?_
  refine a_get (pc := 5) (kb := 0) (j := 0) (f := 8) F iW_X11 rfl rfl rfl (by decide) (tl q2_64) (fun _ h => h) rfl dX11_thief_5 ?_
  refine a_iconst (pc := 8) F dX11_thief_8 kc_0 ?_
  obtain ⟨t1, ht1, hf⟩ := bd_some hf
  refine a_callV (pc := 9) (bs' := [bX11 y a0 z0_tape z0_tokens z0_hillReader z0_lawReader (a1 0) (a2 0) z0_diary z0_spare z0_draft z0_spareDiary z0_guess z0_past z0_imageHill z0_imageRules z0_imageDiary v0, bX3 y a1 v1, bX5 y a2 t1.2]) (kb := 1) (j := 0) F [1, 2] (c_X3_luredTo l D y ek n a1 a2 _ _ _ _ ht1) (cwV 2 F.1.2.2.2.2 (gV q2_237 q2_238 q2_239 q1_3 q3_0) rfl rfl rfl (by decide +kernel) ⟨Nat.le_of_ble_eq_true rfl, Nat.le_of_ble_eq_true rfl⟩) rfl rfl rfl rfl (by decide) rfl rfl rfl rfl rfl rfl (Nat.le_of_ble_eq_true rfl) ⟨Nat.zero_le _, Nat.zero_le _⟩ dX11_thief_9 ?_
  obtain rfl := Option.some.inj hf
  exact hret _ _ _ _ (Nat.zero_le _) (Nat.zero_le _) rfl dX11_thief_12

abbrev wX11_count : List Cond := Cond.code yX11_count cX11_count 2 (some .int) :: WALL
def m_X11_count (n : Nat) (v0 : St) (v1 : St) (v2 : St) (v3 : St) (v4 : St) (x1 : Int32) : Option (Int32) :=
(if x1 = 0 then
some (v1 0 0)
else
(if x1 = 1 then
some (v1 1 0)
else
(if x1 = 2 then
some (v0 6 0)
else
(if x1 = 3 then
some (v2 0 0)
else
(if x1 = 4 then
some (v1 7 0)
else
(if x1 = 5 then
some (v1 2 0)
else
(if x1 = 6 then
some (v1 3 0)
else
(if x1 = 7 then
some (v1 4 0)
else
(if x1 = 8 then
some (v1 5 0)
else
(if x1 = 9 then
some (v1 6 0)
else
(if x1 = 10 then
bd (m_X3_brokenPlanks n v1) (fun t1 =>
some t1)
else
(if x1 = 11 then
bd (m_X3_goneThings n v1) (fun t2 =>
some t2)
else
(if x1 = 12 then
bd (m_X3_purseSum n v1) (fun t3 =>
some t3)
else
(if x1 = 13 then
some (v3 0 0)
else
(if x1 = 14 then
some (v4 0 0)
else
some (-1))))))))))))))))
set_option maxHeartbeats 4000000 in
set_option maxRecDepth 100000 in
theorem c_X11_count (l : Launch) (D : va_G) (y : Nat → ClassId) (ek : EK) (n : Nat) (a0 : Nat → Nat) (a1 : Nat → Nat) (a2 : Nat → Nat) (a3 : Nat → Nat) (a4 : Nat → Nat) (z0_tape : Nat) (z0_tokens : Nat) (z0_hillReader : Nat) (z0_lawReader : Nat) (z0_spare : Nat) (z0_draft : Nat) (z0_spareDiary : Nat) (z0_guess : Nat) (z0_imageHill : Nat) (z0_imageRules : Nat) (z0_imageDiary : Nat) (z4_hills : Nat → Nat → Nat) (z4_diaries : Nat → Nat → Nat) (v0 : St) (v1 : St) (v2 : St) (v3 : St) (v4 : St) (x1 : Int32) (res : Int32) (hf : m_X11_count n v0 v1 v2 v3 v4 x1 = some res) : CI l yX11_count wX11_count { frames := 2, cells := 0, slots := 0, locals := 43 } D y ek [.ref (a0 0), .int x1] [bX11 y a0 z0_tape z0_tokens z0_hillReader z0_lawReader (a1 0) (a2 0) (a3 0) z0_spare z0_draft z0_spareDiary z0_guess (a4 0) z0_imageHill z0_imageRules z0_imageDiary v0, bX3 y a1 v1, bX5 y a2 v2, bX1 y a3 v3, bX8 y a4 z4_hills z4_diaries v4] (res) [bX11 y a0 z0_tape z0_tokens z0_hillReader z0_lawReader (a1 0) (a2 0) (a3 0) z0_spare z0_draft z0_spareDiary z0_guess (a4 0) z0_imageHill z0_imageRules z0_imageDiary v0, bX3 y a1 v1, bX5 y a2 v2, bX1 y a3 v3, bX8 y a4 z4_hills z4_diaries v4] 0 0 := by
  unfold m_X11_count at hf
  refine ci_of (cc := cX11_count) (maxL := 2) (by decide) rfl rfl (Nat.le_of_ble_eq_true rfl) ?_
  intro p e s m below meth c Q A F hret
  refine a_lv (lv' := [(0, .ref (a0 0)), (1, .int x1)]) rfl ?_
  refine a_iloadn (pc := 0) (j := 1) F dX11_count_0 rfl rfl ?_
  by_cases h0 : x1 = 0
  · replace hf := it_pos h0 hf
    refine a_tin (pc := 1) (tgt := 76) (k := 0) F dX11_count_1 (by rw [h0]; decide) (by decide) (by decide) rfl (by decide) ?_
    refine a_aloadn (pc := 76) (j := 0) F dX11_count_76 rfl rfl ?_
    refine a_get (pc := 77) (kb := 0) (j := 0) (f := 7) F iW_X11 rfl rfl rfl (by decide) (tl q2_63) (fun _ h => h) rfl dX11_count_77 ?_
    refine a_get (pc := 80) (kb := 1) (j := 0) (f := 0) F iW_X3 rfl rfl rfl (by decide) (tl q1_68) (fun _ h => h) rfl dX11_count_80 ?_
    obtain rfl := Option.some.inj hf
    exact hret _ _ _ _ (Nat.zero_le _) (Nat.zero_le _) rfl dX11_count_83
  replace hf := it_neg h0 hf
  by_cases h1 : x1 = 1
  · replace hf := it_pos h1 hf
    refine a_tin (pc := 1) (tgt := 84) (k := 1) F dX11_count_1 (by rw [h1]; decide) (by decide) (by decide) rfl (by decide) ?_
    refine a_aloadn (pc := 84) (j := 0) F dX11_count_84 rfl rfl ?_
    refine a_get (pc := 85) (kb := 0) (j := 0) (f := 7) F iW_X11 rfl rfl rfl (by decide) (tl q2_63) (fun _ h => h) rfl dX11_count_85 ?_
    refine a_get (pc := 88) (kb := 1) (j := 0) (f := 1) F iW_X3 rfl rfl rfl (by decide) (tl q1_72) (fun _ h => h) rfl dX11_count_88 ?_
    obtain rfl := Option.some.inj hf
    exact hret _ _ _ _ (Nat.zero_le _) (Nat.zero_le _) rfl dX11_count_91
  replace hf := it_neg h1 hf
  by_cases h2 : x1 = 2
  · replace hf := it_pos h2 hf
    refine a_tin (pc := 1) (tgt := 92) (k := 2) F dX11_count_1 (by rw [h2]; decide) (by decide) (by decide) rfl (by decide) ?_
    refine a_aloadn (pc := 92) (j := 0) F dX11_count_92 rfl rfl ?_
    refine a_get (pc := 93) (kb := 0) (j := 0) (f := 6) F iW_X11 rfl rfl rfl (by decide) (tl q2_62) (fun _ h => h) rfl dX11_count_93 ?_
    obtain rfl := Option.some.inj hf
    exact hret _ _ _ _ (Nat.zero_le _) (Nat.zero_le _) rfl dX11_count_96
  replace hf := it_neg h2 hf
  by_cases h3 : x1 = 3
  · replace hf := it_pos h3 hf
    refine a_tin (pc := 1) (tgt := 97) (k := 3) F dX11_count_1 (by rw [h3]; decide) (by decide) (by decide) rfl (by decide) ?_
    refine a_aloadn (pc := 97) (j := 0) F dX11_count_97 rfl rfl ?_
    refine a_get (pc := 98) (kb := 0) (j := 0) (f := 8) F iW_X11 rfl rfl rfl (by decide) (tl q2_64) (fun _ h => h) rfl dX11_count_98 ?_
    refine a_get (pc := 101) (kb := 2) (j := 0) (f := 0) F iW_X5 rfl rfl rfl (by decide) (tl q1_170) (fun _ h => h) rfl dX11_count_101 ?_
    obtain rfl := Option.some.inj hf
    exact hret _ _ _ _ (Nat.zero_le _) (Nat.zero_le _) rfl dX11_count_104
  replace hf := it_neg h3 hf
  by_cases h4 : x1 = 4
  · replace hf := it_pos h4 hf
    refine a_tin (pc := 1) (tgt := 105) (k := 4) F dX11_count_1 (by rw [h4]; decide) (by decide) (by decide) rfl (by decide) ?_
    refine a_aloadn (pc := 105) (j := 0) F dX11_count_105 rfl rfl ?_
    refine a_get (pc := 106) (kb := 0) (j := 0) (f := 7) F iW_X11 rfl rfl rfl (by decide) (tl q2_63) (fun _ h => h) rfl dX11_count_106 ?_
    refine a_get (pc := 109) (kb := 1) (j := 0) (f := 7) F iW_X3 rfl rfl rfl (by decide) (tl q1_90) (fun _ h => h) rfl dX11_count_109 ?_
    obtain rfl := Option.some.inj hf
    exact hret _ _ _ _ (Nat.zero_le _) (Nat.zero_le _) rfl dX11_count_112
  replace hf := it_neg h4 hf
  by_cases h5 : x1 = 5
  · replace hf := it_pos h5 hf
    refine a_tin (pc := 1) (tgt := 113) (k := 5) F dX11_count_1 (by rw [h5]; decide) (by decide) (by decide) rfl (by decide) ?_
    refine a_aloadn (pc := 113) (j := 0) F dX11_count_113 rfl rfl ?_
    refine a_get (pc := 114) (kb := 0) (j := 0) (f := 7) F iW_X11 rfl rfl rfl (by decide) (tl q2_63) (fun _ h => h) rfl dX11_count_114 ?_
    refine a_get (pc := 117) (kb := 1) (j := 0) (f := 2) F iW_X3 rfl rfl rfl (by decide) (tl q1_75) (fun _ h => h) rfl dX11_count_117 ?_
    obtain rfl := Option.some.inj hf
    exact hret _ _ _ _ (Nat.zero_le _) (Nat.zero_le _) rfl dX11_count_120
  replace hf := it_neg h5 hf
  by_cases h6 : x1 = 6
  · replace hf := it_pos h6 hf
    refine a_tin (pc := 1) (tgt := 121) (k := 6) F dX11_count_1 (by rw [h6]; decide) (by decide) (by decide) rfl (by decide) ?_
    refine a_aloadn (pc := 121) (j := 0) F dX11_count_121 rfl rfl ?_
    refine a_get (pc := 122) (kb := 0) (j := 0) (f := 7) F iW_X11 rfl rfl rfl (by decide) (tl q2_63) (fun _ h => h) rfl dX11_count_122 ?_
    refine a_get (pc := 125) (kb := 1) (j := 0) (f := 3) F iW_X3 rfl rfl rfl (by decide) (tl q1_79) (fun _ h => h) rfl dX11_count_125 ?_
    obtain rfl := Option.some.inj hf
    exact hret _ _ _ _ (Nat.zero_le _) (Nat.zero_le _) rfl dX11_count_128
  replace hf := it_neg h6 hf
  by_cases h7 : x1 = 7
  · replace hf := it_pos h7 hf
    refine a_tin (pc := 1) (tgt := 129) (k := 7) F dX11_count_1 (by rw [h7]; decide) (by decide) (by decide) rfl (by decide) ?_
    refine a_aloadn (pc := 129) (j := 0) F dX11_count_129 rfl rfl ?_
    refine a_get (pc := 130) (kb := 0) (j := 0) (f := 7) F iW_X11 rfl rfl rfl (by decide) (tl q2_63) (fun _ h => h) rfl dX11_count_130 ?_
    refine a_get (pc := 133) (kb := 1) (j := 0) (f := 4) F iW_X3 rfl rfl rfl (by decide) (tl q1_82) (fun _ h => h) rfl dX11_count_133 ?_
    obtain rfl := Option.some.inj hf
    exact hret _ _ _ _ (Nat.zero_le _) (Nat.zero_le _) rfl dX11_count_136
  replace hf := it_neg h7 hf
  by_cases h8 : x1 = 8
  · replace hf := it_pos h8 hf
    refine a_tin (pc := 1) (tgt := 137) (k := 8) F dX11_count_1 (by rw [h8]; decide) (by decide) (by decide) rfl (by decide) ?_
    refine a_aloadn (pc := 137) (j := 0) F dX11_count_137 rfl rfl ?_
    refine a_get (pc := 138) (kb := 0) (j := 0) (f := 7) F iW_X11 rfl rfl rfl (by decide) (tl q2_63) (fun _ h => h) rfl dX11_count_138 ?_
    refine a_get (pc := 141) (kb := 1) (j := 0) (f := 5) F iW_X3 rfl rfl rfl (by decide) (tl q1_85) (fun _ h => h) rfl dX11_count_141 ?_
    obtain rfl := Option.some.inj hf
    exact hret _ _ _ _ (Nat.zero_le _) (Nat.zero_le _) rfl dX11_count_144
  replace hf := it_neg h8 hf
  by_cases h9 : x1 = 9
  · replace hf := it_pos h9 hf
    refine a_tin (pc := 1) (tgt := 145) (k := 9) F dX11_count_1 (by rw [h9]; decide) (by decide) (by decide) rfl (by decide) ?_
    refine a_aloadn (pc := 145) (j := 0) F dX11_count_145 rfl rfl ?_
    refine a_get (pc := 146) (kb := 0) (j := 0) (f := 7) F iW_X11 rfl rfl rfl (by decide) (tl q2_63) (fun _ h => h) rfl dX11_count_146 ?_
    refine a_get (pc := 149) (kb := 1) (j := 0) (f := 6) F iW_X3 rfl rfl rfl (by decide) (tl q1_88) (fun _ h => h) rfl dX11_count_149 ?_
    obtain rfl := Option.some.inj hf
    exact hret _ _ _ _ (Nat.zero_le _) (Nat.zero_le _) rfl dX11_count_152
  replace hf := it_neg h9 hf
  by_cases h10 : x1 = 10
  · replace hf := it_pos h10 hf
    refine a_tin (pc := 1) (tgt := 153) (k := 10) F dX11_count_1 (by rw [h10]; decide) (by decide) (by decide) rfl (by decide) ?_
    refine a_aloadn (pc := 153) (j := 0) F dX11_count_153 rfl rfl ?_
    refine a_get (pc := 154) (kb := 0) (j := 0) (f := 7) F iW_X11 rfl rfl rfl (by decide) (tl q2_63) (fun _ h => h) rfl dX11_count_154 ?_
    obtain ⟨t1, ht1, hf⟩ := bd_some hf
    refine a_callV (pc := 157) (bs' := [bX11 y a0 z0_tape z0_tokens z0_hillReader z0_lawReader (a1 0) (a2 0) (a3 0) z0_spare z0_draft z0_spareDiary z0_guess (a4 0) z0_imageHill z0_imageRules z0_imageDiary v0, bX3 y a1 v1, bX5 y a2 v2, bX1 y a3 v3, bX8 y a4 z4_hills z4_diaries v4]) (kb := 1) (j := 0) F [1] (c_X3_brokenPlanks l D y ek n a1 _ _ ht1) (cwV 0 F.1.2.2.2.2 (gV q3_77 q3_78 q3_79 q1_3 q3_80) rfl rfl rfl (by decide +kernel) ⟨Nat.le_of_ble_eq_true rfl, Nat.le_of_ble_eq_true rfl⟩) rfl rfl rfl rfl (by decide) rfl rfl rfl rfl rfl rfl (Nat.le_of_ble_eq_true rfl) ⟨Nat.zero_le _, Nat.zero_le _⟩ dX11_count_157 ?_
    obtain rfl := Option.some.inj hf
    exact hret _ _ _ _ (Nat.zero_le _) (Nat.zero_le _) rfl dX11_count_160
  replace hf := it_neg h10 hf
  by_cases h11 : x1 = 11
  · replace hf := it_pos h11 hf
    refine a_tin (pc := 1) (tgt := 161) (k := 11) F dX11_count_1 (by rw [h11]; decide) (by decide) (by decide) rfl (by decide) ?_
    refine a_aloadn (pc := 161) (j := 0) F dX11_count_161 rfl rfl ?_
    refine a_get (pc := 162) (kb := 0) (j := 0) (f := 7) F iW_X11 rfl rfl rfl (by decide) (tl q2_63) (fun _ h => h) rfl dX11_count_162 ?_
    obtain ⟨t2, ht2, hf⟩ := bd_some hf
    refine a_callV (pc := 165) (bs' := [bX11 y a0 z0_tape z0_tokens z0_hillReader z0_lawReader (a1 0) (a2 0) (a3 0) z0_spare z0_draft z0_spareDiary z0_guess (a4 0) z0_imageHill z0_imageRules z0_imageDiary v0, bX3 y a1 v1, bX5 y a2 v2, bX1 y a3 v3, bX8 y a4 z4_hills z4_diaries v4]) (kb := 1) (j := 0) F [1] (c_X3_goneThings l D y ek n a1 _ _ ht2) (cwV 0 F.1.2.2.2.2 (gV q3_81 q3_82 q3_83 q1_3 q3_84) rfl rfl rfl (by decide +kernel) ⟨Nat.le_of_ble_eq_true rfl, Nat.le_of_ble_eq_true rfl⟩) rfl rfl rfl rfl (by decide) rfl rfl rfl rfl rfl rfl (Nat.le_of_ble_eq_true rfl) ⟨Nat.zero_le _, Nat.zero_le _⟩ dX11_count_165 ?_
    obtain rfl := Option.some.inj hf
    exact hret _ _ _ _ (Nat.zero_le _) (Nat.zero_le _) rfl dX11_count_168
  replace hf := it_neg h11 hf
  by_cases h12 : x1 = 12
  · replace hf := it_pos h12 hf
    refine a_tin (pc := 1) (tgt := 169) (k := 12) F dX11_count_1 (by rw [h12]; decide) (by decide) (by decide) rfl (by decide) ?_
    refine a_aloadn (pc := 169) (j := 0) F dX11_count_169 rfl rfl ?_
    refine a_get (pc := 170) (kb := 0) (j := 0) (f := 7) F iW_X11 rfl rfl rfl (by decide) (tl q2_63) (fun _ h => h) rfl dX11_count_170 ?_
    obtain ⟨t3, ht3, hf⟩ := bd_some hf
    refine a_callV (pc := 173) (bs' := [bX11 y a0 z0_tape z0_tokens z0_hillReader z0_lawReader (a1 0) (a2 0) (a3 0) z0_spare z0_draft z0_spareDiary z0_guess (a4 0) z0_imageHill z0_imageRules z0_imageDiary v0, bX3 y a1 v1, bX5 y a2 v2, bX1 y a3 v3, bX8 y a4 z4_hills z4_diaries v4]) (kb := 1) (j := 0) F [1] (c_X3_purseSum l D y ek n a1 _ _ ht3) (cwV 0 F.1.2.2.2.2 (gV q3_89 q3_90 q3_91 q1_3 q3_92) rfl rfl rfl (by decide +kernel) ⟨Nat.le_of_ble_eq_true rfl, Nat.le_of_ble_eq_true rfl⟩) rfl rfl rfl rfl (by decide) rfl rfl rfl rfl rfl rfl (Nat.le_of_ble_eq_true rfl) ⟨Nat.zero_le _, Nat.zero_le _⟩ dX11_count_173 ?_
    obtain rfl := Option.some.inj hf
    exact hret _ _ _ _ (Nat.zero_le _) (Nat.zero_le _) rfl dX11_count_176
  replace hf := it_neg h12 hf
  by_cases h13 : x1 = 13
  · replace hf := it_pos h13 hf
    refine a_tin (pc := 1) (tgt := 177) (k := 13) F dX11_count_1 (by rw [h13]; decide) (by decide) (by decide) rfl (by decide) ?_
    refine a_aloadn (pc := 177) (j := 0) F dX11_count_177 rfl rfl ?_
    refine a_get (pc := 178) (kb := 0) (j := 0) (f := 9) F iW_X11 rfl rfl rfl (by decide) (tl q2_65) (fun _ h => h) rfl dX11_count_178 ?_
    refine a_get (pc := 181) (kb := 3) (j := 0) (f := 0) F iW_X1 rfl rfl rfl (by decide) (tl q1_199) (fun _ h => h) rfl dX11_count_181 ?_
    obtain rfl := Option.some.inj hf
    exact hret _ _ _ _ (Nat.zero_le _) (Nat.zero_le _) rfl dX11_count_184
  replace hf := it_neg h13 hf
  by_cases h14 : x1 = 14
  · replace hf := it_pos h14 hf
    refine a_tin (pc := 1) (tgt := 185) (k := 14) F dX11_count_1 (by rw [h14]; decide) (by decide) (by decide) rfl (by decide) ?_
    refine a_aloadn (pc := 185) (j := 0) F dX11_count_185 rfl rfl ?_
    refine a_get (pc := 186) (kb := 0) (j := 0) (f := 14) F iW_X11 rfl rfl rfl (by decide) (tl q2_70) (fun _ h => h) rfl dX11_count_186 ?_
    refine a_get (pc := 189) (kb := 4) (j := 0) (f := 0) F iW_X8 rfl rfl rfl (by decide) (tl q2_43) (fun _ h => h) rfl dX11_count_189 ?_
    obtain rfl := Option.some.inj hf
    exact hret _ _ _ _ (Nat.zero_le _) (Nat.zero_le _) rfl dX11_count_192
  replace hf := it_neg h14 hf
  refine a_tout (pc := 1) (tgt := 193) F dX11_count_1 (by have := sw_ne 0 h0 (by decide); have := sw_ne 1 h1 (by decide); have := sw_ne 2 h2 (by decide); have := sw_ne 3 h3 (by decide); have := sw_ne 4 h4 (by decide); have := sw_ne 5 h5 (by decide); have := sw_ne 6 h6 (by decide); have := sw_ne 7 h7 (by decide); have := sw_ne 8 h8 (by decide); have := sw_ne 9 h9 (by decide); have := sw_ne 10 h10 (by decide); have := sw_ne 11 h11 (by decide); have := sw_ne 12 h12 (by decide); have := sw_ne 13 h13 (by decide); have := sw_ne 14 h14 (by decide); omega) (by decide) ?_
  refine a_iconst (pc := 193) F dX11_count_193 kc_m1 ?_
  obtain rfl := Option.some.inj hf
  exact hret _ _ _ _ (Nat.zero_le _) (Nat.zero_le _) rfl dX11_count_194

abbrev wX11_seed : List Cond := Cond.code yX11_seed cX11_seed 3 (some .int) :: WALL
def m_X11_seed (n : Nat) (v0 : St) (v1 : St) (x1 : Int32) : Option (Int32 × St) :=
nm (v1 8 0) (fun x2_1 =>
nm (su v1 8 0 x1) (fun u2 =>
some (x2_1, u2)))
set_option maxHeartbeats 4000000 in
set_option maxRecDepth 100000 in
theorem c_X11_seed (l : Launch) (D : va_G) (y : Nat → ClassId) (ek : EK) (n : Nat) (a0 : Nat → Nat) (a1 : Nat → Nat) (z0_tape : Nat) (z0_tokens : Nat) (z0_hillReader : Nat) (z0_lawReader : Nat) (z0_rules : Nat) (z0_diary : Nat) (z0_spare : Nat) (z0_draft : Nat) (z0_spareDiary : Nat) (z0_guess : Nat) (z0_past : Nat) (z0_imageHill : Nat) (z0_imageRules : Nat) (z0_imageDiary : Nat) (v0 : St) (v1 : St) (x1 : Int32) (res : Int32 × St) (hf : m_X11_seed n v0 v1 x1 = some res) : CI l yX11_seed wX11_seed { frames := 0, cells := 0, slots := 0, locals := 0 } D y ek [.ref (a0 0), .int x1] [bX11 y a0 z0_tape z0_tokens z0_hillReader z0_lawReader (a1 0) z0_rules z0_diary z0_spare z0_draft z0_spareDiary z0_guess z0_past z0_imageHill z0_imageRules z0_imageDiary v0, bX3 y a1 v1] (res.1) [bX11 y a0 z0_tape z0_tokens z0_hillReader z0_lawReader (a1 0) z0_rules z0_diary z0_spare z0_draft z0_spareDiary z0_guess z0_past z0_imageHill z0_imageRules z0_imageDiary v0, bX3 y a1 res.2] 0 0 := by
  unfold m_X11_seed at hf
  refine ci_of (cc := cX11_seed) (maxL := 3) (by decide) rfl rfl (Nat.le_of_ble_eq_true rfl) ?_
  intro p e s m below meth c Q A F hret
  refine a_lv (lv' := [(0, .ref (a0 0)), (1, .int x1)]) rfl ?_
  refine a_aloadn (pc := 0) (j := 0) F dX11_seed_0 rfl rfl ?_
  refine a_get (pc := 1) (kb := 0) (j := 0) (f := 7) F iW_X11 rfl rfl rfl (by decide) (tl q2_63) (fun _ h => h) rfl dX11_seed_1 ?_
  refine a_get (pc := 4) (kb := 1) (j := 0) (f := 8) F iW_X3 rfl rfl rfl (by decide) (tl q1_92) (fun _ h => h) rfl dX11_seed_4 ?_
  obtain ⟨x2_1, ex2_1, hf⟩ := nm_some hf
  refine a_nmi ex2_1 ?_
  refine a_istoren (pc := 7) (lv' := [(0, .ref (a0 0)), (1, .int x1), (2, .int x2_1)]) F [1, 2, 0] dX11_seed_7 rfl (by decide) rfl ?_
  refine a_aloadn (pc := 8) (j := 0) F dX11_seed_8 rfl rfl ?_
  refine a_get (pc := 9) (kb := 0) (j := 0) (f := 7) F iW_X11 rfl rfl rfl (by decide) (tl q2_63) (fun _ h => h) rfl dX11_seed_9 ?_
  refine a_iloadn (pc := 12) (j := 1) F dX11_seed_12 rfl rfl ?_
  obtain ⟨u2, eu2, hf⟩ := nm_some hf
  refine a_put (pc := 13) (kb := 1) (j := 0) (f := 8) (ty := .int) (bs' := [bX11 y a0 z0_tape z0_tokens z0_hillReader z0_lawReader (a1 0) z0_rules z0_diary z0_spare z0_draft z0_spareDiary z0_guess z0_past z0_imageHill z0_imageRules z0_imageDiary v0, bX3 y a1 u2]) F iW_X3 rfl rfl rfl (by decide) (tl q1_92) (fun _ h => h) tyX3 tyX3_ok nmX3 rfl rfl rfl rfl (Nat.le_of_ble_eq_true rfl) (by rw [eu2]; rfl) dX11_seed_13 ?_
  refine a_iloadn (pc := 16) (j := 2) F dX11_seed_16 rfl rfl ?_
  obtain rfl := Option.some.inj hf
  exact hret _ _ _ _ (Nat.zero_le _) (Nat.zero_le _) rfl dX11_seed_17

abbrev wX11_log : List Cond := Cond.code yX11_log cX11_log 3 (some .int) :: WALL
def m_X11_log (n : Nat) (v0 : St) (v1 : St) (x1 : Int32) (x2 : Int32) : Option ((Int32) ⊕ (Nat)) :=
(if x2 < 0 then
some (Sum.inr 3)
else
(if x2 < 5 then
bd (m_X1_cell n v1 x1 x2) (fun t1 =>
some (Sum.inl t1))
else
some (Sum.inr 3)))
set_option maxHeartbeats 4000000 in
set_option maxRecDepth 100000 in
theorem c_X11_log (l : Launch) (D : va_G) (y : Nat → ClassId) (ek : EK) (n : Nat) (a0 : Nat → Nat) (a1 : Nat → Nat) (z0_tape : Nat) (z0_tokens : Nat) (z0_hillReader : Nat) (z0_lawReader : Nat) (z0_now : Nat) (z0_rules : Nat) (z0_spare : Nat) (z0_draft : Nat) (z0_spareDiary : Nat) (z0_guess : Nat) (z0_past : Nat) (z0_imageHill : Nat) (z0_imageRules : Nat) (z0_imageDiary : Nat) (v0 : St) (v1 : St) (x1 : Int32) (x2 : Int32) (res : Int32) (hf : m_X11_log n v0 v1 x1 x2 = some (Sum.inl res)) : CI l yX11_log wX11_log { frames := 6, cells := 0, slots := 0, locals := 82 } D y ek [.ref (a0 0), .int x1, .int x2] [bX11 y a0 z0_tape z0_tokens z0_hillReader z0_lawReader z0_now z0_rules (a1 0) z0_spare z0_draft z0_spareDiary z0_guess z0_past z0_imageHill z0_imageRules z0_imageDiary v0, bX1 y a1 v1] (res) [bX11 y a0 z0_tape z0_tokens z0_hillReader z0_lawReader z0_now z0_rules (a1 0) z0_spare z0_draft z0_spareDiary z0_guess z0_past z0_imageHill z0_imageRules z0_imageDiary v0, bX1 y a1 v1] 0 0 := by
  unfold m_X11_log at hf
  refine ci_of (cc := cX11_log) (maxL := 3) (by decide) rfl rfl (Nat.le_of_ble_eq_true rfl) ?_
  intro p e s m below meth c Q A F hret
  refine a_lv (lv' := [(0, .ref (a0 0)), (1, .int x1), (2, .int x2)]) rfl ?_
  refine a_iloadn (pc := 0) (j := 2) F dX11_log_0 rfl rfl ?_
  refine a_if_lt (pc := 1) (tgt := 9) F dX11_log_1 (by decide) (fun h => ?_) (fun h => ?_)
  · replace hf := it_pos h hf
    exact absurd hf (by simp)
  · replace hf := it_neg h hf
    refine a_iloadn (pc := 4) (j := 2) F dX11_log_4 rfl rfl ?_
    refine a_iconst (pc := 5) F dX11_log_5 kc_5 ?_
    refine a_icmp_lt (pc := 6) (tgt := 17) F dX11_log_6 (by decide) (fun h => ?_) (fun h => ?_)
    · replace hf := it_pos h hf
      refine a_aloadn (pc := 17) (j := 0) F dX11_log_17 rfl rfl ?_
      refine a_get (pc := 18) (kb := 0) (j := 0) (f := 9) F iW_X11 rfl rfl rfl (by decide) (tl q2_65) (fun _ h => h) rfl dX11_log_18 ?_
      refine a_iloadn (pc := 21) (j := 1) F dX11_log_21 rfl rfl ?_
      refine a_iloadn (pc := 22) (j := 2) F dX11_log_22 rfl rfl ?_
      obtain ⟨t1, ht1, hf⟩ := bd_some hf
      refine a_callV (pc := 23) (bs' := [bX11 y a0 z0_tape z0_tokens z0_hillReader z0_lawReader z0_now z0_rules (a1 0) z0_spare z0_draft z0_spareDiary z0_guess z0_past z0_imageHill z0_imageRules z0_imageDiary v0, bX1 y a1 v1]) (kb := 1) (j := 0) F [1] (c_X1_cell l D y ek n a1 _ _ _ _ ht1) (cwV 2 F.1.2.2.2.2 (gV q6_57 q6_43 q6_44 q1_5 q6_45) rfl rfl rfl (by decide +kernel) ⟨Nat.le_of_ble_eq_true rfl, Nat.le_of_ble_eq_true rfl⟩) rfl rfl rfl rfl (by decide) rfl rfl rfl rfl rfl rfl (Nat.le_of_ble_eq_true rfl) ⟨Nat.zero_le _, Nat.zero_le _⟩ dX11_log_23 ?_
      obtain rfl := Sum.inl.inj (Option.some.inj hf)
      exact hret _ _ _ _ (Nat.zero_le _) (Nat.zero_le _) rfl dX11_log_26
    · replace hf := it_neg h hf
      exact absurd hf (by simp)
set_option maxHeartbeats 4000000 in
set_option maxRecDepth 100000 in
theorem x_X11_log (l : Launch) (hlt : l.stackTraces = false) (D : va_G) (y : Nat → ClassId) (ek : EK) (n : Nat) (a0 : Nat → Nat) (a1 : Nat → Nat) (z0_tape : Nat) (z0_tokens : Nat) (z0_hillReader : Nat) (z0_lawReader : Nat) (z0_now : Nat) (z0_rules : Nat) (z0_spare : Nat) (z0_draft : Nat) (z0_spareDiary : Nat) (z0_guess : Nat) (z0_past : Nat) (z0_imageHill : Nat) (z0_imageRules : Nat) (z0_imageDiary : Nat) (v0 : St) (v1 : St) (x1 : Int32) (x2 : Int32) (res : Nat) (hf : m_X11_log n v0 v1 x1 x2 = some (Sum.inr res)) : CX l yX11_log wX11_log { frames := 6, cells := 1, slots := 6, locals := 82 } D y ek [.ref (a0 0), .int x1, .int x2] [bX11 y a0 z0_tape z0_tokens z0_hillReader z0_lawReader z0_now z0_rules (a1 0) z0_spare z0_draft z0_spareDiary z0_guess z0_past z0_imageHill z0_imageRules z0_imageDiary v0, bX1 y a1 v1] (eX.getD res "") [bX11 y a0 z0_tape z0_tokens z0_hillReader z0_lawReader z0_now z0_rules (a1 0) z0_spare z0_draft z0_spareDiary z0_guess z0_past z0_imageHill z0_imageRules z0_imageDiary v0, bX1 y a1 v1] 1 6 := by
  unfold m_X11_log at hf
  refine cx_of (cc := cX11_log) (maxL := 3) hlt (by decide) rfl (Nat.le_of_ble_eq_true rfl) (Nat.le_refl 1) (Nat.le_refl 6) ?_
  intro p e s m below meth c Q A F hthr hout
  refine a_lv (lv' := [(0, .ref (a0 0)), (1, .int x1), (2, .int x2)]) rfl ?_
  refine a_iloadn (pc := 0) (j := 2) F dX11_log_0 rfl rfl ?_
  refine a_if_lt (pc := 1) (tgt := 9) F dX11_log_1 (by decide) (fun h => ?_) (fun h => ?_)
  · replace hf := it_pos h hf
    obtain rfl := Sum.inr.inj (Option.some.inj hf)
    exact hthr 9 190 192 _ _ xw_3 dX11_log_9 dX11_log_12 dX11_log_13 dX11_log_16 (Nat.le_of_ble_eq_true rfl) (Nat.le_of_ble_eq_true rfl) (Nat.le_of_ble_eq_true rfl) (Nat.le_of_ble_eq_true rfl)
  · replace hf := it_neg h hf
    refine a_iloadn (pc := 4) (j := 2) F dX11_log_4 rfl rfl ?_
    refine a_iconst (pc := 5) F dX11_log_5 kc_5 ?_
    refine a_icmp_lt (pc := 6) (tgt := 17) F dX11_log_6 (by decide) (fun h => ?_) (fun h => ?_)
    · replace hf := it_pos h hf
      refine a_aloadn (pc := 17) (j := 0) F dX11_log_17 rfl rfl ?_
      refine a_get (pc := 18) (kb := 0) (j := 0) (f := 9) F iW_X11 rfl rfl rfl (by decide) (tl q2_65) (fun _ h => h) rfl dX11_log_18 ?_
      refine a_iloadn (pc := 21) (j := 1) F dX11_log_21 rfl rfl ?_
      refine a_iloadn (pc := 22) (j := 2) F dX11_log_22 rfl rfl ?_
      obtain ⟨t1, ht1, hf⟩ := bd_some hf
      refine a_callV (pc := 23) (bs' := [bX11 y a0 z0_tape z0_tokens z0_hillReader z0_lawReader z0_now z0_rules (a1 0) z0_spare z0_draft z0_spareDiary z0_guess z0_past z0_imageHill z0_imageRules z0_imageDiary v0, bX1 y a1 v1]) (kb := 1) (j := 0) F [1] (c_X1_cell l D y ek n a1 _ _ _ _ ht1) (cwV 2 F.1.2.2.2.2 (gV q6_57 q6_43 q6_44 q1_5 q6_45) rfl rfl rfl (by decide +kernel) ⟨Nat.le_of_ble_eq_true rfl, Nat.le_of_ble_eq_true rfl⟩) rfl rfl rfl rfl (by decide) rfl rfl rfl rfl rfl rfl (Nat.le_of_ble_eq_true rfl) ⟨Nat.zero_le _, Nat.zero_le _⟩ dX11_log_23 ?_
      exact absurd hf (by simp)
    · replace hf := it_neg h hf
      obtain rfl := Sum.inr.inj (Option.some.inj hf)
      exact hthr 9 190 192 _ _ xw_3 dX11_log_9 dX11_log_12 dX11_log_13 dX11_log_16 (Nat.le_of_ble_eq_true rfl) (Nat.le_of_ble_eq_true rfl) (Nat.le_of_ble_eq_true rfl) (Nat.le_of_ble_eq_true rfl)

abbrev wX11_led : List Cond := Cond.code yX11_led cX11_led 3 (some .int) :: WALL
def m_X11_led (n : Nat) (v0 : St) (v1 : St) (v2 : St) (x1 : Int32) (x2 : Int32) : Option ((Int32) ⊕ (Nat)) :=
bd (m_X11_checkThing n v0 v1 x1) (fun t1 => sm t1 (fun t1a =>
(if x2 = 0 then
bd (m_X1_rowsOf n v2 x1) (fun t2 =>
some (Sum.inl t2))
else
bd (m_X1_latestWeekOf n v2 x1) (fun t3 =>
some (Sum.inl t3)))) (fun t1x => some (Sum.inr t1x)))
set_option maxHeartbeats 4000000 in
set_option maxRecDepth 100000 in
theorem c_X11_led (l : Launch) (D : va_G) (y : Nat → ClassId) (ek : EK) (n : Nat) (a0 : Nat → Nat) (a1 : Nat → Nat) (a2 : Nat → Nat) (z0_tape : Nat) (z0_tokens : Nat) (z0_hillReader : Nat) (z0_lawReader : Nat) (z0_rules : Nat) (z0_spare : Nat) (z0_draft : Nat) (z0_spareDiary : Nat) (z0_guess : Nat) (z0_past : Nat) (z0_imageHill : Nat) (z0_imageRules : Nat) (z0_imageDiary : Nat) (v0 : St) (v1 : St) (v2 : St) (x1 : Int32) (x2 : Int32) (res : Int32) (hf : m_X11_led n v0 v1 v2 x1 x2 = some (Sum.inl res)) : CI l yX11_led wX11_led { frames := 7, cells := 0, slots := 0, locals := 103 } D y ek [.ref (a0 0), .int x1, .int x2] [bX11 y a0 z0_tape z0_tokens z0_hillReader z0_lawReader (a1 0) z0_rules (a2 0) z0_spare z0_draft z0_spareDiary z0_guess z0_past z0_imageHill z0_imageRules z0_imageDiary v0, bX3 y a1 v1, bX1 y a2 v2] (res) [bX11 y a0 z0_tape z0_tokens z0_hillReader z0_lawReader (a1 0) z0_rules (a2 0) z0_spare z0_draft z0_spareDiary z0_guess z0_past z0_imageHill z0_imageRules z0_imageDiary v0, bX3 y a1 v1, bX1 y a2 v2] 0 0 := by
  unfold m_X11_led at hf
  refine ci_of (cc := cX11_led) (maxL := 3) (by decide) rfl rfl (Nat.le_of_ble_eq_true rfl) ?_
  intro p e s m below meth c Q A F hret
  refine a_lv (lv' := [(0, .ref (a0 0)), (1, .int x1), (2, .int x2)]) rfl ?_
  refine a_aloadn (pc := 0) (j := 0) F dX11_led_0 rfl rfl ?_
  refine a_iloadn (pc := 1) (j := 1) F dX11_led_1 rfl rfl ?_
  obtain ⟨t1, ht1a, hf⟩ := bd_some hf
  rcases t1 with t1a | t1x
  · replace hf := sm_inl hf
    refine a_callVv (pc := 2) (bs' := [bX11 y a0 z0_tape z0_tokens z0_hillReader z0_lawReader (a1 0) z0_rules (a2 0) z0_spare z0_draft z0_spareDiary z0_guess z0_past z0_imageHill z0_imageRules z0_imageDiary v0, bX3 y a1 v1, bX1 y a2 v2]) (kb := 0) (j := 0) F [0, 1] (c_X11_checkThing l D y ek n a0 a1 z0_tape z0_tokens z0_hillReader z0_lawReader z0_rules (a2 0) z0_spare z0_draft z0_spareDiary z0_guess z0_past z0_imageHill z0_imageRules z0_imageDiary _ _ _ _ ht1a) (cwV 1 F.1.2.2.2.2 (gV q4_221 q4_223 qs_19 q1_1 q4_224) rfl rfl rfl (by decide +kernel) ⟨Nat.le_of_ble_eq_true rfl, Nat.le_of_ble_eq_true rfl⟩) rfl rfl rfl rfl (by decide) rfl rfl rfl rfl rfl rfl (Nat.le_of_ble_eq_true rfl) ⟨Nat.zero_le _, Nat.zero_le _⟩ dX11_led_2 ?_
    refine a_iloadn (pc := 5) (j := 2) F dX11_led_5 rfl rfl ?_
    refine a_if_eq (pc := 6) (tgt := 20) F dX11_led_6 (by decide) (fun h => ?_) (fun h => ?_)
    · replace hf := it_pos h hf
      refine a_aloadn (pc := 20) (j := 0) F dX11_led_20 rfl rfl ?_
      refine a_get (pc := 21) (kb := 0) (j := 0) (f := 9) F iW_X11 rfl rfl rfl (by decide) (tl q2_65) (fun _ h => h) rfl dX11_led_21 ?_
      refine a_iloadn (pc := 24) (j := 1) F dX11_led_24 rfl rfl ?_
      obtain ⟨t2, ht2, hf⟩ := bd_some hf
      refine a_callV (pc := 25) (bs' := [bX11 y a0 z0_tape z0_tokens z0_hillReader z0_lawReader (a1 0) z0_rules (a2 0) z0_spare z0_draft z0_spareDiary z0_guess z0_past z0_imageHill z0_imageRules z0_imageDiary v0, bX3 y a1 v1, bX1 y a2 v2]) (kb := 2) (j := 0) F [2] (c_X1_rowsOf l D y ek n a2 _ _ _ ht2) (cwV 1 F.1.2.2.2.2 (gV q6_46 q6_47 q6_48 q1_5 q6_49) rfl rfl rfl (by decide +kernel) ⟨Nat.le_of_ble_eq_true rfl, Nat.le_of_ble_eq_true rfl⟩) rfl rfl rfl rfl (by decide) rfl rfl rfl rfl rfl rfl (Nat.le_of_ble_eq_true rfl) ⟨Nat.zero_le _, Nat.zero_le _⟩ dX11_led_25 ?_
      obtain rfl := Sum.inl.inj (Option.some.inj hf)
      exact hret _ _ _ _ (Nat.zero_le _) (Nat.zero_le _) rfl dX11_led_28
    · replace hf := it_neg h hf
      refine a_aloadn (pc := 9) (j := 0) F dX11_led_9 rfl rfl ?_
      refine a_get (pc := 10) (kb := 0) (j := 0) (f := 9) F iW_X11 rfl rfl rfl (by decide) (tl q2_65) (fun _ h => h) rfl dX11_led_10 ?_
      refine a_iloadn (pc := 13) (j := 1) F dX11_led_13 rfl rfl ?_
      obtain ⟨t3, ht3, hf⟩ := bd_some hf
      refine a_callV (pc := 14) (bs' := [bX11 y a0 z0_tape z0_tokens z0_hillReader z0_lawReader (a1 0) z0_rules (a2 0) z0_spare z0_draft z0_spareDiary z0_guess z0_past z0_imageHill z0_imageRules z0_imageDiary v0, bX3 y a1 v1, bX1 y a2 v2]) (kb := 2) (j := 0) F [2] (c_X1_latestWeekOf l D y ek n a2 _ _ _ ht3) (cwV 1 F.1.2.2.2.2 (gV q6_38 q6_39 q6_40 q1_5 q6_41) rfl rfl rfl (by decide +kernel) ⟨Nat.le_of_ble_eq_true rfl, Nat.le_of_ble_eq_true rfl⟩) rfl rfl rfl rfl (by decide) rfl rfl rfl rfl rfl rfl (Nat.le_of_ble_eq_true rfl) ⟨Nat.zero_le _, Nat.zero_le _⟩ dX11_led_14 ?_
      refine a_goto (pc := 17) (tgt := 28) F dX11_led_17 (by decide) ?_
      obtain rfl := Sum.inl.inj (Option.some.inj hf)
      exact hret _ _ _ _ (Nat.zero_le _) (Nat.zero_le _) rfl dX11_led_28
  · replace hf := sm_inr hf
    exact absurd hf (by simp)
set_option maxHeartbeats 4000000 in
set_option maxRecDepth 100000 in
theorem x_X11_led (l : Launch) (hlt : l.stackTraces = false) (D : va_G) (y : Nat → ClassId) (ek : EK) (n : Nat) (a0 : Nat → Nat) (a1 : Nat → Nat) (a2 : Nat → Nat) (z0_tape : Nat) (z0_tokens : Nat) (z0_hillReader : Nat) (z0_lawReader : Nat) (z0_rules : Nat) (z0_spare : Nat) (z0_draft : Nat) (z0_spareDiary : Nat) (z0_guess : Nat) (z0_past : Nat) (z0_imageHill : Nat) (z0_imageRules : Nat) (z0_imageDiary : Nat) (v0 : St) (v1 : St) (v2 : St) (x1 : Int32) (x2 : Int32) (res : Nat) (hf : m_X11_led n v0 v1 v2 x1 x2 = some (Sum.inr res)) : CX l yX11_led wX11_led { frames := 7, cells := 1, slots := 6, locals := 103 } D y ek [.ref (a0 0), .int x1, .int x2] [bX11 y a0 z0_tape z0_tokens z0_hillReader z0_lawReader (a1 0) z0_rules (a2 0) z0_spare z0_draft z0_spareDiary z0_guess z0_past z0_imageHill z0_imageRules z0_imageDiary v0, bX3 y a1 v1, bX1 y a2 v2] (eX.getD res "") [bX11 y a0 z0_tape z0_tokens z0_hillReader z0_lawReader (a1 0) z0_rules (a2 0) z0_spare z0_draft z0_spareDiary z0_guess z0_past z0_imageHill z0_imageRules z0_imageDiary v0, bX3 y a1 v1, bX1 y a2 v2] 1 6 := by
  unfold m_X11_led at hf
  refine cx_of (cc := cX11_led) (maxL := 3) hlt (by decide) rfl (Nat.le_of_ble_eq_true rfl) (Nat.le_refl 1) (Nat.le_refl 6) ?_
  intro p e s m below meth c Q A F hthr hout
  refine a_lv (lv' := [(0, .ref (a0 0)), (1, .int x1), (2, .int x2)]) rfl ?_
  refine a_aloadn (pc := 0) (j := 0) F dX11_led_0 rfl rfl ?_
  refine a_iloadn (pc := 1) (j := 1) F dX11_led_1 rfl rfl ?_
  obtain ⟨t1, ht1a, hf⟩ := bd_some hf
  rcases t1 with t1a | t1x
  · replace hf := sm_inl hf
    refine a_callVv (pc := 2) (bs' := [bX11 y a0 z0_tape z0_tokens z0_hillReader z0_lawReader (a1 0) z0_rules (a2 0) z0_spare z0_draft z0_spareDiary z0_guess z0_past z0_imageHill z0_imageRules z0_imageDiary v0, bX3 y a1 v1, bX1 y a2 v2]) (kb := 0) (j := 0) F [0, 1] (c_X11_checkThing l D y ek n a0 a1 z0_tape z0_tokens z0_hillReader z0_lawReader z0_rules (a2 0) z0_spare z0_draft z0_spareDiary z0_guess z0_past z0_imageHill z0_imageRules z0_imageDiary _ _ _ _ ht1a) (cwV 1 F.1.2.2.2.2 (gV q4_221 q4_223 qs_19 q1_1 q4_224) rfl rfl rfl (by decide +kernel) ⟨Nat.le_of_ble_eq_true rfl, Nat.le_of_ble_eq_true rfl⟩) rfl rfl rfl rfl (by decide) rfl rfl rfl rfl rfl rfl (Nat.le_of_ble_eq_true rfl) ⟨Nat.zero_le _, Nat.zero_le _⟩ dX11_led_2 ?_
    refine a_iloadn (pc := 5) (j := 2) F dX11_led_5 rfl rfl ?_
    refine a_if_eq (pc := 6) (tgt := 20) F dX11_led_6 (by decide) (fun h => ?_) (fun h => ?_)
    · replace hf := it_pos h hf
      refine a_aloadn (pc := 20) (j := 0) F dX11_led_20 rfl rfl ?_
      refine a_get (pc := 21) (kb := 0) (j := 0) (f := 9) F iW_X11 rfl rfl rfl (by decide) (tl q2_65) (fun _ h => h) rfl dX11_led_21 ?_
      refine a_iloadn (pc := 24) (j := 1) F dX11_led_24 rfl rfl ?_
      obtain ⟨t2, ht2, hf⟩ := bd_some hf
      refine a_callV (pc := 25) (bs' := [bX11 y a0 z0_tape z0_tokens z0_hillReader z0_lawReader (a1 0) z0_rules (a2 0) z0_spare z0_draft z0_spareDiary z0_guess z0_past z0_imageHill z0_imageRules z0_imageDiary v0, bX3 y a1 v1, bX1 y a2 v2]) (kb := 2) (j := 0) F [2] (c_X1_rowsOf l D y ek n a2 _ _ _ ht2) (cwV 1 F.1.2.2.2.2 (gV q6_46 q6_47 q6_48 q1_5 q6_49) rfl rfl rfl (by decide +kernel) ⟨Nat.le_of_ble_eq_true rfl, Nat.le_of_ble_eq_true rfl⟩) rfl rfl rfl rfl (by decide) rfl rfl rfl rfl rfl rfl (Nat.le_of_ble_eq_true rfl) ⟨Nat.zero_le _, Nat.zero_le _⟩ dX11_led_25 ?_
      exact absurd hf (by simp)
    · replace hf := it_neg h hf
      refine a_aloadn (pc := 9) (j := 0) F dX11_led_9 rfl rfl ?_
      refine a_get (pc := 10) (kb := 0) (j := 0) (f := 9) F iW_X11 rfl rfl rfl (by decide) (tl q2_65) (fun _ h => h) rfl dX11_led_10 ?_
      refine a_iloadn (pc := 13) (j := 1) F dX11_led_13 rfl rfl ?_
      obtain ⟨t3, ht3, hf⟩ := bd_some hf
      refine a_callV (pc := 14) (bs' := [bX11 y a0 z0_tape z0_tokens z0_hillReader z0_lawReader (a1 0) z0_rules (a2 0) z0_spare z0_draft z0_spareDiary z0_guess z0_past z0_imageHill z0_imageRules z0_imageDiary v0, bX3 y a1 v1, bX1 y a2 v2]) (kb := 2) (j := 0) F [2] (c_X1_latestWeekOf l D y ek n a2 _ _ _ ht3) (cwV 1 F.1.2.2.2.2 (gV q6_38 q6_39 q6_40 q1_5 q6_41) rfl rfl rfl (by decide +kernel) ⟨Nat.le_of_ble_eq_true rfl, Nat.le_of_ble_eq_true rfl⟩) rfl rfl rfl rfl (by decide) rfl rfl rfl rfl rfl rfl (Nat.le_of_ble_eq_true rfl) ⟨Nat.zero_le _, Nat.zero_le _⟩ dX11_led_14 ?_
      refine a_goto (pc := 17) (tgt := 28) F dX11_led_17 (by decide) ?_
      exact absurd hf (by simp)
  · replace hf := sm_inr hf
    obtain rfl := Sum.inr.inj (Option.some.inj hf)
    exact a_callVx (pc := 2) (bs' := [bX11 y a0 z0_tape z0_tokens z0_hillReader z0_lawReader (a1 0) z0_rules (a2 0) z0_spare z0_draft z0_spareDiary z0_guess z0_past z0_imageHill z0_imageRules z0_imageDiary v0, bX3 y a1 v1, bX1 y a2 v2]) (kb := 0) (j := 0) F [0, 1] (x_X11_checkThing l hlt D y ek n a0 a1 z0_tape z0_tokens z0_hillReader z0_lawReader z0_rules (a2 0) z0_spare z0_draft z0_spareDiary z0_guess z0_past z0_imageHill z0_imageRules z0_imageDiary _ _ _ _ ht1a) (cwV 1 F.1.2.2.2.2 (gV q4_221 q4_223 qs_19 q1_1 q4_224) rfl rfl rfl (by decide +kernel) ⟨Nat.le_of_ble_eq_true rfl, Nat.le_of_ble_eq_true rfl⟩) rfl rfl rfl rfl (by decide) rfl rfl rfl rfl rfl rfl (Nat.le_of_ble_eq_true rfl) ⟨Nat.le_of_ble_eq_true rfl, Nat.le_of_ble_eq_true rfl⟩ dX11_led_2 (fun H1 locs1 ls q9 ce h1 h2 h3 h4 h5 h6 h7 => hout H1 locs1 ls _ _ _ _ q9 ce h1 h2 h3 (Nat.le_of_ble_eq_true rfl) (Nat.le_of_ble_eq_true rfl) h5 h6 h7)

abbrev wX11_undo : List Cond := Cond.code yX11_undo cX11_undo 1 (some .boolean) :: WALL
def m_X11_undo (n : Nat) (v0 : St) (v1 : St) (v2 : St) (v3 : St) (v4 : Nat → St) (v5 : Nat → St) : Option (Int32 × St × St × St) :=
bd (m_X8_restore n v3 v4 v5 v1 v2) (fun t1 =>
(if isb t1.1 then some (t1.1, t1.2.2.1, t1.2.2.2, t1.2.1) else none))
set_option maxHeartbeats 4000000 in
set_option maxRecDepth 100000 in
theorem c_X11_undo (l : Launch) (D : va_G) (y : Nat → ClassId) (ek : EK) (n : Nat) (a0 : Nat → Nat) (a1 : Nat → Nat) (a2 : Nat → Nat) (a3 : Nat → Nat) (a4 : Nat → Nat → Nat) (a5 : Nat → Nat → Nat) (z0_tape : Nat) (z0_tokens : Nat) (z0_hillReader : Nat) (z0_lawReader : Nat) (z0_rules : Nat) (z0_spare : Nat) (z0_draft : Nat) (z0_spareDiary : Nat) (z0_guess : Nat) (z0_imageHill : Nat) (z0_imageRules : Nat) (z0_imageDiary : Nat) (v0 : St) (v1 : St) (v2 : St) (v3 : St) (v4 : Nat → St) (v5 : Nat → St) (res : Int32 × St × St × St) (hf : m_X11_undo n v0 v1 v2 v3 v4 v5 = some res) : CI l yX11_undo wX11_undo { frames := 3, cells := 0, slots := 0, locals := 113 } D y ek [.ref (a0 0)] [bX11 y a0 z0_tape z0_tokens z0_hillReader z0_lawReader (a1 0) z0_rules (a2 0) z0_spare z0_draft z0_spareDiary z0_guess (a3 0) z0_imageHill z0_imageRules z0_imageDiary v0, bX3 y a1 v1, bX1 y a2 v2, bX8 y a3 a4 a5 v3, bPH y a4 v4, bPD y a5 v5] (res.1) [bX11 y a0 z0_tape z0_tokens z0_hillReader z0_lawReader (a1 0) z0_rules (a2 0) z0_spare z0_draft z0_spareDiary z0_guess (a3 0) z0_imageHill z0_imageRules z0_imageDiary v0, bX3 y a1 res.2.1, bX1 y a2 res.2.2.1, bX8 y a3 a4 a5 res.2.2.2, bPH y a4 v4, bPD y a5 v5] 0 0 := by
  unfold m_X11_undo at hf
  refine ci_of (cc := cX11_undo) (maxL := 1) (by decide) rfl rfl (Nat.le_of_ble_eq_true rfl) ?_
  intro p e s m below meth c Q A F hret
  refine a_lv (lv' := [(0, .ref (a0 0))]) rfl ?_
  refine a_aloadn (pc := 0) (j := 0) F dX11_undo_0 rfl rfl ?_
  refine a_get (pc := 1) (kb := 0) (j := 0) (f := 14) F iW_X11 rfl rfl rfl (by decide) (tl q2_70) (fun _ h => h) rfl dX11_undo_1 ?_
  refine a_aloadn (pc := 4) (j := 0) F dX11_undo_4 rfl rfl ?_
  refine a_get (pc := 5) (kb := 0) (j := 0) (f := 7) F iW_X11 rfl rfl rfl (by decide) (tl q2_63) (fun _ h => h) rfl dX11_undo_5 ?_
  refine a_aloadn (pc := 8) (j := 0) F dX11_undo_8 rfl rfl ?_
  refine a_get (pc := 9) (kb := 0) (j := 0) (f := 9) F iW_X11 rfl rfl rfl (by decide) (tl q2_65) (fun _ h => h) rfl dX11_undo_9 ?_
  obtain ⟨t1, ht1, hf⟩ := bd_some hf
  refine a_callV (pc := 12) (bs' := [bX11 y a0 z0_tape z0_tokens z0_hillReader z0_lawReader (a1 0) z0_rules (a2 0) z0_spare z0_draft z0_spareDiary z0_guess (a3 0) z0_imageHill z0_imageRules z0_imageDiary v0, bX3 y a1 t1.2.2.1, bX1 y a2 t1.2.2.2, bX8 y a3 a4 a5 t1.2.1, bPH y a4 v4, bPD y a5 v5]) (kb := 3) (j := 0) F [3, 4, 5, 1, 2] (c_X8_restore l D y ek n a3 a4 a5 a1 a2 _ _ _ _ _ _ ht1) (cwV 2 F.1.2.2.2.2 (gV q3_51 q3_52 q3_53 q1_10 q3_54) rfl rfl rfl (by decide +kernel) ⟨Nat.le_of_ble_eq_true rfl, Nat.le_of_ble_eq_true rfl⟩) rfl rfl rfl rfl (by decide) rfl rfl rfl rfl rfl rfl (Nat.le_of_ble_eq_true rfl) ⟨Nat.zero_le _, Nat.zero_le _⟩ dX11_undo_12 ?_
  obtain ⟨hz, hf⟩ := gd_some hf
  obtain rfl := Option.some.inj hf
  exact hret _ _ _ _ (Nat.zero_le _) (Nat.zero_le _) (z_nar hz) dX11_undo_15

abbrev wX11_image : List Cond := Cond.code yX11_image cX11_image 1 none :: WALL
def m_X11_image (n : Nat) (v0 : St) (v1 : St) (v2 : St) (v3 : St) (v4 : St) (v5 : St) (v6 : St) : Option (St × St × St × St) :=
nm (su v0 15 0 1) (fun u1 =>
nm (su u1 16 0 (u1 6 0)) (fun u2 =>
bd (m_X3_copyFrom n v4 v1) (fun t3 =>
bd (m_X5_copyFrom n v5 v2) (fun t4 =>
bd (m_X1_copyFrom n v6 v3) (fun t5 =>
some (u2, t3, t4, t5))))))
set_option maxHeartbeats 4000000 in
set_option maxRecDepth 100000 in
theorem c_X11_image (l : Launch) (D : va_G) (y : Nat → ClassId) (ek : EK) (n : Nat) (a0 : Nat → Nat) (a1 : Nat → Nat) (a2 : Nat → Nat) (a3 : Nat → Nat) (a4 : Nat → Nat) (a5 : Nat → Nat) (a6 : Nat → Nat) (z0_tape : Nat) (z0_tokens : Nat) (z0_hillReader : Nat) (z0_lawReader : Nat) (z0_spare : Nat) (z0_draft : Nat) (z0_spareDiary : Nat) (z0_guess : Nat) (z0_past : Nat) (v0 : St) (v1 : St) (v2 : St) (v3 : St) (v4 : St) (v5 : St) (v6 : St) (res : St × St × St × St) (hf : m_X11_image n v0 v1 v2 v3 v4 v5 v6 = some res) : CV l yX11_image wX11_image { frames := 2, cells := 0, slots := 0, locals := 82 } D y ek [.ref (a0 0)] [bX11 y a0 z0_tape z0_tokens z0_hillReader z0_lawReader (a1 0) (a2 0) (a3 0) z0_spare z0_draft z0_spareDiary z0_guess z0_past (a4 0) (a5 0) (a6 0) v0, bX3 y a1 v1, bX5 y a2 v2, bX1 y a3 v3, bX3 y a4 v4, bX5 y a5 v5, bX1 y a6 v6] [bX11 y a0 z0_tape z0_tokens z0_hillReader z0_lawReader (a1 0) (a2 0) (a3 0) z0_spare z0_draft z0_spareDiary z0_guess z0_past (a4 0) (a5 0) (a6 0) res.1, bX3 y a1 v1, bX5 y a2 v2, bX1 y a3 v3, bX3 y a4 res.2.1, bX5 y a5 res.2.2.1, bX1 y a6 res.2.2.2] 0 0 := by
  unfold m_X11_image at hf
  refine cv_of (cc := cX11_image) (maxL := 1) (by decide) rfl rfl (Nat.le_of_ble_eq_true rfl) ?_
  intro p e s m below meth c Q A F hret
  refine a_lv (lv' := [(0, .ref (a0 0))]) rfl ?_
  refine a_aloadn (pc := 0) (j := 0) F dX11_image_0 rfl rfl ?_
  refine a_iconst (pc := 1) F dX11_image_1 kc_1 ?_
  obtain ⟨u1, eu1, hf⟩ := nm_some hf
  refine a_put (pc := 2) (kb := 0) (j := 0) (f := 15) (ty := .boolean) (bs' := [bX11 y a0 z0_tape z0_tokens z0_hillReader z0_lawReader (a1 0) (a2 0) (a3 0) z0_spare z0_draft z0_spareDiary z0_guess z0_past (a4 0) (a5 0) (a6 0) u1, bX3 y a1 v1, bX5 y a2 v2, bX1 y a3 v3, bX3 y a4 v4, bX5 y a5 v5, bX1 y a6 v6]) F iW_X11 rfl rfl rfl (by decide) (tl q2_71) (fun _ h => h) tyX11 tyX11_ok nmX11 rfl rfl rfl rfl (Nat.le_of_ble_eq_true rfl) (by rw [eu1]; rfl) dX11_image_2 ?_
  refine a_aloadn (pc := 5) (j := 0) F dX11_image_5 rfl rfl ?_
  refine a_aloadn (pc := 6) (j := 0) F dX11_image_6 rfl rfl ?_
  refine a_get (pc := 7) (kb := 0) (j := 0) (f := 6) F iW_X11 rfl rfl rfl (by decide) (tl q2_62) (fun _ h => h) rfl dX11_image_7 ?_
  obtain ⟨u2, eu2, hf⟩ := nm_some hf
  refine a_put (pc := 10) (kb := 0) (j := 0) (f := 16) (ty := .int) (bs' := [bX11 y a0 z0_tape z0_tokens z0_hillReader z0_lawReader (a1 0) (a2 0) (a3 0) z0_spare z0_draft z0_spareDiary z0_guess z0_past (a4 0) (a5 0) (a6 0) u2, bX3 y a1 v1, bX5 y a2 v2, bX1 y a3 v3, bX3 y a4 v4, bX5 y a5 v5, bX1 y a6 v6]) F iW_X11 rfl rfl rfl (by decide) (tl q2_72) (fun _ h => h) tyX11 tyX11_ok nmX11 rfl rfl rfl rfl (Nat.le_of_ble_eq_true rfl) (by rw [eu2]; rfl) dX11_image_10 ?_
  refine a_aloadn (pc := 13) (j := 0) F dX11_image_13 rfl rfl ?_
  refine a_get (pc := 14) (kb := 0) (j := 0) (f := 17) F iW_X11 rfl rfl rfl (by decide) (tl q2_73) (fun _ h => h) rfl dX11_image_14 ?_
  refine a_aloadn (pc := 17) (j := 0) F dX11_image_17 rfl rfl ?_
  refine a_get (pc := 18) (kb := 0) (j := 0) (f := 7) F iW_X11 rfl rfl rfl (by decide) (tl q2_63) (fun _ h => h) rfl dX11_image_18 ?_
  obtain ⟨t3, ht3, hf⟩ := bd_some hf
  refine a_callVv (pc := 21) (bs' := [bX11 y a0 z0_tape z0_tokens z0_hillReader z0_lawReader (a1 0) (a2 0) (a3 0) z0_spare z0_draft z0_spareDiary z0_guess z0_past (a4 0) (a5 0) (a6 0) u2, bX3 y a1 v1, bX5 y a2 v2, bX1 y a3 v3, bX3 y a4 t3, bX5 y a5 v5, bX1 y a6 v6]) (kb := 4) (j := 0) F [4, 1] (c_X3_copyFrom l D y ek n a4 a1 _ _ _ ht3) (cwV 1 F.1.2.2.2.2 (gV q2_197 q2_142 q2_143 q1_3 q2_144) rfl rfl rfl (by decide +kernel) ⟨Nat.le_of_ble_eq_true rfl, Nat.le_of_ble_eq_true rfl⟩) rfl rfl rfl rfl (by decide) rfl rfl rfl rfl rfl rfl (Nat.le_of_ble_eq_true rfl) ⟨Nat.zero_le _, Nat.zero_le _⟩ dX11_image_21 ?_
  refine a_aloadn (pc := 24) (j := 0) F dX11_image_24 rfl rfl ?_
  refine a_get (pc := 25) (kb := 0) (j := 0) (f := 18) F iW_X11 rfl rfl rfl (by decide) (tl q2_74) (fun _ h => h) rfl dX11_image_25 ?_
  refine a_aloadn (pc := 28) (j := 0) F dX11_image_28 rfl rfl ?_
  refine a_get (pc := 29) (kb := 0) (j := 0) (f := 8) F iW_X11 rfl rfl rfl (by decide) (tl q2_64) (fun _ h => h) rfl dX11_image_29 ?_
  obtain ⟨t4, ht4, hf⟩ := bd_some hf
  refine a_callVv (pc := 32) (bs' := [bX11 y a0 z0_tape z0_tokens z0_hillReader z0_lawReader (a1 0) (a2 0) (a3 0) z0_spare z0_draft z0_spareDiary z0_guess z0_past (a4 0) (a5 0) (a6 0) u2, bX3 y a1 v1, bX5 y a2 v2, bX1 y a3 v3, bX3 y a4 t3, bX5 y a5 t4, bX1 y a6 v6]) (kb := 5) (j := 0) F [5, 2] (c_X5_copyFrom l D y ek n a5 a2 _ _ _ ht4) (cwV 1 F.1.2.2.2.2 (gV q3_59 q3_60 q3_61 q1_4 q3_62) rfl rfl rfl (by decide +kernel) ⟨Nat.le_of_ble_eq_true rfl, Nat.le_of_ble_eq_true rfl⟩) rfl rfl rfl rfl (by decide) rfl rfl rfl rfl rfl rfl (Nat.le_of_ble_eq_true rfl) ⟨Nat.zero_le _, Nat.zero_le _⟩ dX11_image_32 ?_
  refine a_aloadn (pc := 35) (j := 0) F dX11_image_35 rfl rfl ?_
  refine a_get (pc := 36) (kb := 0) (j := 0) (f := 19) F iW_X11 rfl rfl rfl (by decide) (tl q2_75) (fun _ h => h) rfl dX11_image_36 ?_
  refine a_aloadn (pc := 39) (j := 0) F dX11_image_39 rfl rfl ?_
  refine a_get (pc := 40) (kb := 0) (j := 0) (f := 9) F iW_X11 rfl rfl rfl (by decide) (tl q2_65) (fun _ h => h) rfl dX11_image_40 ?_
  obtain ⟨t5, ht5, hf⟩ := bd_some hf
  refine a_callVv (pc := 43) (bs' := [bX11 y a0 z0_tape z0_tokens z0_hillReader z0_lawReader (a1 0) (a2 0) (a3 0) z0_spare z0_draft z0_spareDiary z0_guess z0_past (a4 0) (a5 0) (a6 0) u2, bX3 y a1 v1, bX5 y a2 v2, bX1 y a3 v3, bX3 y a4 t3, bX5 y a5 t4, bX1 y a6 t5]) (kb := 6) (j := 0) F [6, 3] (c_X1_copyFrom l D y ek n a6 a3 _ _ _ ht5) (cwV 1 F.1.2.2.2.2 (gV q3_64 q2_149 q2_150 q1_5 q2_151) rfl rfl rfl (by decide +kernel) ⟨Nat.le_of_ble_eq_true rfl, Nat.le_of_ble_eq_true rfl⟩) rfl rfl rfl rfl (by decide) rfl rfl rfl rfl rfl rfl (Nat.le_of_ble_eq_true rfl) ⟨Nat.zero_le _, Nat.zero_le _⟩ dX11_image_43 ?_
  obtain rfl := Option.some.inj hf
  exact hret _ _ _ _ (Nat.zero_le _) (Nat.zero_le _) dX11_image_46

abbrev wX11_back : List Cond := Cond.code yX11_back cX11_back 1 (some .boolean) :: WALL
def m_X11_back (n : Nat) (v0 : St) (v1 : St) (v2 : St) (v3 : St) (v4 : St) (v5 : St) (v6 : St) (v7 : St) : Option (Int32 × St × St × St × St × St) :=
(if (v0 15 0) = 0 then
some (0, v0, v1, v2, v3, v4)
else
nm (su v0 6 0 (v0 16 0)) (fun u1 =>
bd (m_X3_copyFrom n v1 v5) (fun t2 =>
bd (m_X5_copyFrom n v2 v6) (fun t3 =>
bd (m_X1_copyFrom n v3 v7) (fun t4 =>
bd (m_X8_forget n v4) (fun t5 =>
some (1, u1, t2, t3, t4, t5)))))))
set_option maxHeartbeats 4000000 in
set_option maxRecDepth 100000 in
theorem c_X11_back (l : Launch) (D : va_G) (y : Nat → ClassId) (ek : EK) (n : Nat) (a0 : Nat → Nat) (a1 : Nat → Nat) (a2 : Nat → Nat) (a3 : Nat → Nat) (a4 : Nat → Nat) (a5 : Nat → Nat) (a6 : Nat → Nat) (a7 : Nat → Nat) (z0_tape : Nat) (z0_tokens : Nat) (z0_hillReader : Nat) (z0_lawReader : Nat) (z0_spare : Nat) (z0_draft : Nat) (z0_spareDiary : Nat) (z0_guess : Nat) (z4_hills : Nat → Nat → Nat) (z4_diaries : Nat → Nat → Nat) (v0 : St) (v1 : St) (v2 : St) (v3 : St) (v4 : St) (v5 : St) (v6 : St) (v7 : St) (res : Int32 × St × St × St × St × St) (hf : m_X11_back n v0 v1 v2 v3 v4 v5 v6 v7 = some res) : CI l yX11_back wX11_back { frames := 2, cells := 0, slots := 0, locals := 82 } D y ek [.ref (a0 0)] [bX11 y a0 z0_tape z0_tokens z0_hillReader z0_lawReader (a1 0) (a2 0) (a3 0) z0_spare z0_draft z0_spareDiary z0_guess (a4 0) (a5 0) (a6 0) (a7 0) v0, bX3 y a1 v1, bX5 y a2 v2, bX1 y a3 v3, bX8 y a4 z4_hills z4_diaries v4, bX3 y a5 v5, bX5 y a6 v6, bX1 y a7 v7] (res.1) [bX11 y a0 z0_tape z0_tokens z0_hillReader z0_lawReader (a1 0) (a2 0) (a3 0) z0_spare z0_draft z0_spareDiary z0_guess (a4 0) (a5 0) (a6 0) (a7 0) res.2.1, bX3 y a1 res.2.2.1, bX5 y a2 res.2.2.2.1, bX1 y a3 res.2.2.2.2.1, bX8 y a4 z4_hills z4_diaries res.2.2.2.2.2, bX3 y a5 v5, bX5 y a6 v6, bX1 y a7 v7] 0 0 := by
  unfold m_X11_back at hf
  refine ci_of (cc := cX11_back) (maxL := 1) (by decide) rfl rfl (Nat.le_of_ble_eq_true rfl) ?_
  intro p e s m below meth c Q A F hret
  refine a_lv (lv' := [(0, .ref (a0 0))]) rfl ?_
  refine a_aloadn (pc := 0) (j := 0) F dX11_back_0 rfl rfl ?_
  refine a_get (pc := 1) (kb := 0) (j := 0) (f := 15) F iW_X11 rfl rfl rfl (by decide) (tl q2_71) (fun _ h => h) rfl dX11_back_1 ?_
  refine a_if_ne (pc := 4) (tgt := 9) F dX11_back_4 (by decide) (fun h => ?_) (fun h => ?_)
  · replace hf := it_neg h hf
    refine a_aloadn (pc := 9) (j := 0) F dX11_back_9 rfl rfl ?_
    refine a_aloadn (pc := 10) (j := 0) F dX11_back_10 rfl rfl ?_
    refine a_get (pc := 11) (kb := 0) (j := 0) (f := 16) F iW_X11 rfl rfl rfl (by decide) (tl q2_72) (fun _ h => h) rfl dX11_back_11 ?_
    obtain ⟨u1, eu1, hf⟩ := nm_some hf
    refine a_put (pc := 14) (kb := 0) (j := 0) (f := 6) (ty := .int) (bs' := [bX11 y a0 z0_tape z0_tokens z0_hillReader z0_lawReader (a1 0) (a2 0) (a3 0) z0_spare z0_draft z0_spareDiary z0_guess (a4 0) (a5 0) (a6 0) (a7 0) u1, bX3 y a1 v1, bX5 y a2 v2, bX1 y a3 v3, bX8 y a4 z4_hills z4_diaries v4, bX3 y a5 v5, bX5 y a6 v6, bX1 y a7 v7]) F iW_X11 rfl rfl rfl (by decide) (tl q2_62) (fun _ h => h) tyX11 tyX11_ok nmX11 rfl rfl rfl rfl (Nat.le_of_ble_eq_true rfl) (by rw [eu1]; rfl) dX11_back_14 ?_
    refine a_aloadn (pc := 17) (j := 0) F dX11_back_17 rfl rfl ?_
    refine a_get (pc := 18) (kb := 0) (j := 0) (f := 7) F iW_X11 rfl rfl rfl (by decide) (tl q2_63) (fun _ h => h) rfl dX11_back_18 ?_
    refine a_aloadn (pc := 21) (j := 0) F dX11_back_21 rfl rfl ?_
    refine a_get (pc := 22) (kb := 0) (j := 0) (f := 17) F iW_X11 rfl rfl rfl (by decide) (tl q2_73) (fun _ h => h) rfl dX11_back_22 ?_
    obtain ⟨t2, ht2, hf⟩ := bd_some hf
    refine a_callVv (pc := 25) (bs' := [bX11 y a0 z0_tape z0_tokens z0_hillReader z0_lawReader (a1 0) (a2 0) (a3 0) z0_spare z0_draft z0_spareDiary z0_guess (a4 0) (a5 0) (a6 0) (a7 0) u1, bX3 y a1 t2, bX5 y a2 v2, bX1 y a3 v3, bX8 y a4 z4_hills z4_diaries v4, bX3 y a5 v5, bX5 y a6 v6, bX1 y a7 v7]) (kb := 1) (j := 0) F [1, 5] (c_X3_copyFrom l D y ek n a1 a5 _ _ _ ht2) (cwV 1 F.1.2.2.2.2 (gV q2_197 q2_142 q2_143 q1_3 q2_144) rfl rfl rfl (by decide +kernel) ⟨Nat.le_of_ble_eq_true rfl, Nat.le_of_ble_eq_true rfl⟩) rfl rfl rfl rfl (by decide) rfl rfl rfl rfl rfl rfl (Nat.le_of_ble_eq_true rfl) ⟨Nat.zero_le _, Nat.zero_le _⟩ dX11_back_25 ?_
    refine a_aloadn (pc := 28) (j := 0) F dX11_back_28 rfl rfl ?_
    refine a_get (pc := 29) (kb := 0) (j := 0) (f := 8) F iW_X11 rfl rfl rfl (by decide) (tl q2_64) (fun _ h => h) rfl dX11_back_29 ?_
    refine a_aloadn (pc := 32) (j := 0) F dX11_back_32 rfl rfl ?_
    refine a_get (pc := 33) (kb := 0) (j := 0) (f := 18) F iW_X11 rfl rfl rfl (by decide) (tl q2_74) (fun _ h => h) rfl dX11_back_33 ?_
    obtain ⟨t3, ht3, hf⟩ := bd_some hf
    refine a_callVv (pc := 36) (bs' := [bX11 y a0 z0_tape z0_tokens z0_hillReader z0_lawReader (a1 0) (a2 0) (a3 0) z0_spare z0_draft z0_spareDiary z0_guess (a4 0) (a5 0) (a6 0) (a7 0) u1, bX3 y a1 t2, bX5 y a2 t3, bX1 y a3 v3, bX8 y a4 z4_hills z4_diaries v4, bX3 y a5 v5, bX5 y a6 v6, bX1 y a7 v7]) (kb := 2) (j := 0) F [2, 6] (c_X5_copyFrom l D y ek n a2 a6 _ _ _ ht3) (cwV 1 F.1.2.2.2.2 (gV q3_59 q3_60 q3_61 q1_4 q3_62) rfl rfl rfl (by decide +kernel) ⟨Nat.le_of_ble_eq_true rfl, Nat.le_of_ble_eq_true rfl⟩) rfl rfl rfl rfl (by decide) rfl rfl rfl rfl rfl rfl (Nat.le_of_ble_eq_true rfl) ⟨Nat.zero_le _, Nat.zero_le _⟩ dX11_back_36 ?_
    refine a_aloadn (pc := 39) (j := 0) F dX11_back_39 rfl rfl ?_
    refine a_get (pc := 40) (kb := 0) (j := 0) (f := 9) F iW_X11 rfl rfl rfl (by decide) (tl q2_65) (fun _ h => h) rfl dX11_back_40 ?_
    refine a_aloadn (pc := 43) (j := 0) F dX11_back_43 rfl rfl ?_
    refine a_get (pc := 44) (kb := 0) (j := 0) (f := 19) F iW_X11 rfl rfl rfl (by decide) (tl q2_75) (fun _ h => h) rfl dX11_back_44 ?_
    obtain ⟨t4, ht4, hf⟩ := bd_some hf
    refine a_callVv (pc := 47) (bs' := [bX11 y a0 z0_tape z0_tokens z0_hillReader z0_lawReader (a1 0) (a2 0) (a3 0) z0_spare z0_draft z0_spareDiary z0_guess (a4 0) (a5 0) (a6 0) (a7 0) u1, bX3 y a1 t2, bX5 y a2 t3, bX1 y a3 t4, bX8 y a4 z4_hills z4_diaries v4, bX3 y a5 v5, bX5 y a6 v6, bX1 y a7 v7]) (kb := 3) (j := 0) F [3, 7] (c_X1_copyFrom l D y ek n a3 a7 _ _ _ ht4) (cwV 1 F.1.2.2.2.2 (gV q3_64 q2_149 q2_150 q1_5 q2_151) rfl rfl rfl (by decide +kernel) ⟨Nat.le_of_ble_eq_true rfl, Nat.le_of_ble_eq_true rfl⟩) rfl rfl rfl rfl (by decide) rfl rfl rfl rfl rfl rfl (Nat.le_of_ble_eq_true rfl) ⟨Nat.zero_le _, Nat.zero_le _⟩ dX11_back_47 ?_
    refine a_aloadn (pc := 50) (j := 0) F dX11_back_50 rfl rfl ?_
    refine a_get (pc := 51) (kb := 0) (j := 0) (f := 14) F iW_X11 rfl rfl rfl (by decide) (tl q2_70) (fun _ h => h) rfl dX11_back_51 ?_
    obtain ⟨t5, ht5, hf⟩ := bd_some hf
    refine a_callVv (pc := 54) (bs' := [bX11 y a0 z0_tape z0_tokens z0_hillReader z0_lawReader (a1 0) (a2 0) (a3 0) z0_spare z0_draft z0_spareDiary z0_guess (a4 0) (a5 0) (a6 0) (a7 0) u1, bX3 y a1 t2, bX5 y a2 t3, bX1 y a3 t4, bX8 y a4 z4_hills z4_diaries t5, bX3 y a5 v5, bX5 y a6 v6, bX1 y a7 v7]) (kb := 4) (j := 0) F [4] (c_X8_forget l D y ek n a4 z4_hills z4_diaries _ _ ht5) (cwV 0 F.1.2.2.2.2 (gV q3_69 q3_70 q3_71 q1_10 q3_72) rfl rfl rfl (by decide +kernel) ⟨Nat.le_of_ble_eq_true rfl, Nat.le_of_ble_eq_true rfl⟩) rfl rfl rfl rfl (by decide) rfl rfl rfl rfl rfl rfl (Nat.le_of_ble_eq_true rfl) ⟨Nat.zero_le _, Nat.zero_le _⟩ dX11_back_54 ?_
    refine a_iconst (pc := 57) F dX11_back_57 kc_1 ?_
    obtain rfl := Option.some.inj hf
    exact hret _ _ _ _ (Nat.zero_le _) (Nat.zero_le _) (z_nar (Or.inr rfl)) dX11_back_58
  · replace hf := it_pos h hf
    refine a_iconst (pc := 7) F dX11_back_7 kc_0 ?_
    obtain rfl := Option.some.inj hf
    exact hret _ _ _ _ (Nat.zero_le _) (Nat.zero_le _) (z_nar (Or.inl rfl)) dX11_back_8

abbrev wX11_sweep : List Cond := Cond.code yX11_sweep cX11_sweep 2 (some .int) :: WALL
def m_X11_sweep (n : Nat) (v0 : St) (v1 : St) (v2 : St) (v3 : St) (v4 : Nat → St) (v5 : Nat → St) : Option (Int32 × St × St × (Nat → St) × (Nat → St)) :=
bd (m_X8_remember n v3 v4 v5 v1 v2) (fun t1 =>
nm (v1 2 0) (fun x1_2 =>
nm (su v1 2 0 0) (fun u3 =>
bd (m_X3_weigh n u3) (fun t4 =>
some (x1_2, t4, t1.1, t1.2.1, t1.2.2)))))
set_option maxHeartbeats 4000000 in
set_option maxRecDepth 100000 in
theorem c_X11_sweep (l : Launch) (D : va_G) (y : Nat → ClassId) (ek : EK) (n : Nat) (a0 : Nat → Nat) (a1 : Nat → Nat) (a2 : Nat → Nat) (a3 : Nat → Nat) (a4 : Nat → Nat → Nat) (a5 : Nat → Nat → Nat) (z0_tape : Nat) (z0_tokens : Nat) (z0_hillReader : Nat) (z0_lawReader : Nat) (z0_rules : Nat) (z0_spare : Nat) (z0_draft : Nat) (z0_spareDiary : Nat) (z0_guess : Nat) (z0_imageHill : Nat) (z0_imageRules : Nat) (z0_imageDiary : Nat) (v0 : St) (v1 : St) (v2 : St) (v3 : St) (v4 : Nat → St) (v5 : Nat → St) (res : Int32 × St × St × (Nat → St) × (Nat → St)) (hf : m_X11_sweep n v0 v1 v2 v3 v4 v5 = some res) : CI l yX11_sweep wX11_sweep { frames := 4, cells := 0, slots := 0, locals := 113 } D y ek [.ref (a0 0)] [bX11 y a0 z0_tape z0_tokens z0_hillReader z0_lawReader (a1 0) z0_rules (a2 0) z0_spare z0_draft z0_spareDiary z0_guess (a3 0) z0_imageHill z0_imageRules z0_imageDiary v0, bX3 y a1 v1, bX1 y a2 v2, bX8 y a3 a4 a5 v3, bPH y a4 v4, bPD y a5 v5] (res.1) [bX11 y a0 z0_tape z0_tokens z0_hillReader z0_lawReader (a1 0) z0_rules (a2 0) z0_spare z0_draft z0_spareDiary z0_guess (a3 0) z0_imageHill z0_imageRules z0_imageDiary v0, bX3 y a1 res.2.1, bX1 y a2 v2, bX8 y a3 a4 a5 res.2.2.1, bPH y a4 res.2.2.2.1, bPD y a5 res.2.2.2.2] 0 0 := by
  unfold m_X11_sweep at hf
  refine ci_of (cc := cX11_sweep) (maxL := 2) (by decide) rfl rfl (Nat.le_of_ble_eq_true rfl) ?_
  intro p e s m below meth c Q A F hret
  refine a_lv (lv' := [(0, .ref (a0 0))]) rfl ?_
  refine a_aloadn (pc := 0) (j := 0) F dX11_sweep_0 rfl rfl ?_
  refine a_get (pc := 1) (kb := 0) (j := 0) (f := 14) F iW_X11 rfl rfl rfl (by decide) (tl q2_70) (fun _ h => h) rfl dX11_sweep_1 ?_
  refine a_aloadn (pc := 4) (j := 0) F dX11_sweep_4 rfl rfl ?_
  refine a_get (pc := 5) (kb := 0) (j := 0) (f := 7) F iW_X11 rfl rfl rfl (by decide) (tl q2_63) (fun _ h => h) rfl dX11_sweep_5 ?_
  refine a_aloadn (pc := 8) (j := 0) F dX11_sweep_8 rfl rfl ?_
  refine a_get (pc := 9) (kb := 0) (j := 0) (f := 9) F iW_X11 rfl rfl rfl (by decide) (tl q2_65) (fun _ h => h) rfl dX11_sweep_9 ?_
  obtain ⟨t1, ht1, hf⟩ := bd_some hf
  refine a_callVv (pc := 12) (bs' := [bX11 y a0 z0_tape z0_tokens z0_hillReader z0_lawReader (a1 0) z0_rules (a2 0) z0_spare z0_draft z0_spareDiary z0_guess (a3 0) z0_imageHill z0_imageRules z0_imageDiary v0, bX3 y a1 v1, bX1 y a2 v2, bX8 y a3 a4 a5 t1.1, bPH y a4 t1.2.1, bPD y a5 t1.2.2]) (kb := 3) (j := 0) F [3, 4, 5, 1, 2] (c_X8_remember l D y ek n a3 a4 a5 a1 a2 _ _ _ _ _ _ ht1) (cwV 2 F.1.2.2.2.2 (gV q2_137 q2_138 q2_139 q1_10 q2_140) rfl rfl rfl (by decide +kernel) ⟨Nat.le_of_ble_eq_true rfl, Nat.le_of_ble_eq_true rfl⟩) rfl rfl rfl rfl (by decide) rfl rfl rfl rfl rfl rfl (Nat.le_of_ble_eq_true rfl) ⟨Nat.zero_le _, Nat.zero_le _⟩ dX11_sweep_12 ?_
  refine a_aloadn (pc := 15) (j := 0) F dX11_sweep_15 rfl rfl ?_
  refine a_get (pc := 16) (kb := 0) (j := 0) (f := 7) F iW_X11 rfl rfl rfl (by decide) (tl q2_63) (fun _ h => h) rfl dX11_sweep_16 ?_
  refine a_get (pc := 19) (kb := 1) (j := 0) (f := 2) F iW_X3 rfl rfl rfl (by decide) (tl q1_75) (fun _ h => h) rfl dX11_sweep_19 ?_
  obtain ⟨x1_2, ex1_2, hf⟩ := nm_some hf
  refine a_nmi ex1_2 ?_
  refine a_istoren (pc := 22) (lv' := [(0, .ref (a0 0)), (1, .int x1_2)]) F [1, 0] dX11_sweep_22 rfl (by decide) rfl ?_
  refine a_aloadn (pc := 23) (j := 0) F dX11_sweep_23 rfl rfl ?_
  refine a_get (pc := 24) (kb := 0) (j := 0) (f := 7) F iW_X11 rfl rfl rfl (by decide) (tl q2_63) (fun _ h => h) rfl dX11_sweep_24 ?_
  refine a_iconst (pc := 27) F dX11_sweep_27 kc_0 ?_
  obtain ⟨u3, eu3, hf⟩ := nm_some hf
  refine a_put (pc := 28) (kb := 1) (j := 0) (f := 2) (ty := .int) (bs' := [bX11 y a0 z0_tape z0_tokens z0_hillReader z0_lawReader (a1 0) z0_rules (a2 0) z0_spare z0_draft z0_spareDiary z0_guess (a3 0) z0_imageHill z0_imageRules z0_imageDiary v0, bX3 y a1 u3, bX1 y a2 v2, bX8 y a3 a4 a5 t1.1, bPH y a4 t1.2.1, bPD y a5 t1.2.2]) F iW_X3 rfl rfl rfl (by decide) (tl q1_75) (fun _ h => h) tyX3 tyX3_ok nmX3 rfl rfl rfl rfl (Nat.le_of_ble_eq_true rfl) (by rw [eu3]; rfl) dX11_sweep_28 ?_
  refine a_aloadn (pc := 31) (j := 0) F dX11_sweep_31 rfl rfl ?_
  refine a_get (pc := 32) (kb := 0) (j := 0) (f := 7) F iW_X11 rfl rfl rfl (by decide) (tl q2_63) (fun _ h => h) rfl dX11_sweep_32 ?_
  obtain ⟨t4, ht4, hf⟩ := bd_some hf
  refine a_callVv (pc := 35) (bs' := [bX11 y a0 z0_tape z0_tokens z0_hillReader z0_lawReader (a1 0) z0_rules (a2 0) z0_spare z0_draft z0_spareDiary z0_guess (a3 0) z0_imageHill z0_imageRules z0_imageDiary v0, bX3 y a1 t4, bX1 y a2 v2, bX8 y a3 a4 a5 t1.1, bPH y a4 t1.2.1, bPD y a5 t1.2.2]) (kb := 1) (j := 0) F [1] (c_X3_weigh l D y ek n a1 _ _ ht4) (cwV 0 F.1.2.2.2.2 (gV q2_153 q2_154 q2_155 q1_3 q2_156) rfl rfl rfl (by decide +kernel) ⟨Nat.le_of_ble_eq_true rfl, Nat.le_of_ble_eq_true rfl⟩) rfl rfl rfl rfl (by decide) rfl rfl rfl rfl rfl rfl (Nat.le_of_ble_eq_true rfl) ⟨Nat.zero_le _, Nat.zero_le _⟩ dX11_sweep_35 ?_
  refine a_iloadn (pc := 38) (j := 1) F dX11_sweep_38 rfl rfl ?_
  obtain rfl := Option.some.inj hf
  exact hret _ _ _ _ (Nat.zero_le _) (Nat.zero_le _) rfl dX11_sweep_39
