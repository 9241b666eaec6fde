section PHILLR3
theorem J_rng2 {x : Int32} {a b : Nat} (h1 : J a ≤ x) (h2 : x ≤ J b) (ha : a < 2147483648) (hb : b < 2147483648) : inB x a b := by
  have h3 := h1
  rw [Int32.le_iff_toInt_le, J_toInt ha] at h3
  have h4 := Int32.toInt_lt x
  refine J_rng ⟨x.toInt.toNat, ?_, by omega⟩ h1 h2 ha hb
  apply Int32.toInt_inj.mp
  rw [J_toInt (by omega)]; omega
theorem wrapQ {R V : St} {len N t : Nat} {x : Option (Int32 × St × St)} {y : Option (Int32 × St)} (h : Ok2 x y (HQ R V len N t)) : Ok2 (bd x (fun t2 => if isb t2.1 then some (t2.1, t2.2.1, t2.2.2) else none)) (bd y (fun t2 => if isb t2.1 then some (t2.1, t2.2) else none)) (HQ R V len N t) := by
  refine ok2_bd h ?_
  rintro a c hq
  obtain ⟨i1, i2⟩ := hq.isb1
  rw [if_pos i1, if_pos i2]
  exact ok2_some hq
theorem set304 (n : Nat) (R tok X : St) (t : Nat) : m_X4_readSetting n (RT R t) tok X 304 = bd (m_X9_number_X4 n (RT R (t + 1)) tok X 0 99) (fun t4 => if t4.1 = (-1) then some (0, t4.2, X) else some (1, t4.2, su X 2 0 t4.1)) := by
  unfold m_X4_readSetting m_X4_mostOf; rw [nm_s, RT_at, J_succ, RT_RT, if_neg (by decide), bd_s, if_pos rfl, bd_s]; rfl
theorem set305 (n : Nat) (R tok X : St) (t : Nat) : m_X4_readSetting n (RT R t) tok X 305 = bd (m_X9_number_X4 n (RT R (t + 1)) tok X 1 40) (fun t4 => if t4.1 = (-1) then some (0, t4.2, X) else some (1, t4.2, su X 3 0 t4.1)) := by
  unfold m_X4_readSetting m_X4_mostOf; rw [nm_s, RT_at, J_succ, RT_RT, if_pos rfl, bd_s, if_neg (by decide), if_pos rfl, bd_s]; rfl
theorem set306 (n : Nat) (R tok X : St) (t : Nat) : m_X4_readSetting n (RT R t) tok X 306 = bd (m_X9_number_X4 n (RT R (t + 1)) tok X 0 100) (fun t4 => if t4.1 = (-1) then some (0, t4.2, X) else some (1, t4.2, su X 4 0 t4.1)) := by
  unfold m_X4_readSetting m_X4_mostOf; rw [nm_s, RT_at, J_succ, RT_RT, if_neg (by decide), bd_s, if_neg (by decide), if_neg (by decide), if_pos rfl, bd_s]; rfl
theorem set307 (n : Nat) (R tok X : St) (t : Nat) : m_X4_readSetting n (RT R t) tok X 307 = bd (m_X9_number_X4 n (RT R (t + 1)) tok X 0 100) (fun t4 => if t4.1 = (-1) then some (0, t4.2, X) else some (1, t4.2, su X 5 0 t4.1)) := by
  unfold m_X4_readSetting m_X4_mostOf; rw [nm_s, RT_at, J_succ, RT_RT, if_neg (by decide), bd_s, if_neg (by decide), if_neg (by decide), if_neg (by decide), if_pos rfl, bd_s]; rfl
theorem set308 (n : Nat) (R tok X : St) (t : Nat) : m_X4_readSetting n (RT R t) tok X 308 = bd (m_X9_number_X4 n (RT R (t + 1)) tok X 0 99) (fun t4 => if t4.1 = (-1) then some (0, t4.2, X) else some (1, t4.2, su X 6 0 t4.1)) := by
  unfold m_X4_readSetting m_X4_mostOf; rw [nm_s, RT_at, J_succ, RT_RT, if_neg (by decide), bd_s, if_neg (by decide), if_neg (by decide), if_neg (by decide), if_neg (by decide), if_pos rfl, bd_s]; rfl
theorem lineT {n : Nat} (hn : 5000 < n) {tok R V X : St} {len N : Nat} (h : CXt tok V len N) (hI : WInv (V 1)) (hB : HB X (V 1)) {t : Nat} (ht : t ≤ N) :
    Ok2 (m_X4_readLine n (RT R t) tok X) (m_X12_readHillLine n (PB V (le_ (V 8) len (st (V 8) len t)) (st (V 8) len t))) (HQ R V len N t) := by
  have w4 : m_X12_isWord n (PB V (le_ (V 8) len (st (V 8) len t)) (st (V 8) len t)) 4 = some (b2 (decide (cd (V 8) len (st (V 8) len t) = 300))) := wordT hn h t (s := 4) (by omega) (by omega)
  have w5 : m_X12_isWord n (PB V (le_ (V 8) len (st (V 8) len t)) (st (V 8) len t)) 5 = some (b2 (decide (cd (V 8) len (st (V 8) len t) = 301))) := wordT hn h t (s := 5) (by omega) (by omega)
  have w6 : m_X12_isWord n (PB V (le_ (V 8) len (st (V 8) len t)) (st (V 8) len t)) 6 = some (b2 (decide (cd (V 8) len (st (V 8) len t) = 302))) := wordT hn h t (s := 6) (by omega) (by omega)
  have w7 : m_X12_isWord n (PB V (le_ (V 8) len (st (V 8) len t)) (st (V 8) len t)) 7 = some (b2 (decide (cd (V 8) len (st (V 8) len t) = 303))) := wordT hn h t (s := 7) (by omega) (by omega)
  have w8 : m_X12_isWord n (PB V (le_ (V 8) len (st (V 8) len t)) (st (V 8) len t)) 8 = some (b2 (decide (cd (V 8) len (st (V 8) len t) = 304))) := wordT hn h t (s := 8) (by omega) (by omega)
  have w9 : m_X12_isWord n (PB V (le_ (V 8) len (st (V 8) len t)) (st (V 8) len t)) 9 = some (b2 (decide (cd (V 8) len (st (V 8) len t) = 305))) := wordT hn h t (s := 9) (by omega) (by omega)
  have w10 : m_X12_isWord n (PB V (le_ (V 8) len (st (V 8) len t)) (st (V 8) len t)) 10 = some (b2 (decide (cd (V 8) len (st (V 8) len t) = 306))) := wordT hn h t (s := 10) (by omega) (by omega)
  have w11 : m_X12_isWord n (PB V (le_ (V 8) len (st (V 8) len t)) (st (V 8) len t)) 11 = some (b2 (decide (cd (V 8) len (st (V 8) len t) = 307))) := wordT hn h t (s := 11) (by omega) (by omega)
  have w12 : m_X12_isWord n (PB V (le_ (V 8) len (st (V 8) len t)) (st (V 8) len t)) 12 = some (b2 (decide (cd (V 8) len (st (V 8) len t) = 308))) := wordT hn h t (s := 12) (by omega) (by omega)
  have nx : ∀ k, k < 25 → cd (V 8) len (st (V 8) len t) = J (300 + k) → t < N ∧ JC V len (le_ (V 8) len (st (V 8) len t)) (t + 1) := fun k hk hc => nextW h ht hk hc
  unfold m_X4_readLine m_X12_readHillLine
  rw [RT_at, codeX n h.1.1 h.2.1 ht, bd_s, w4, bd_s]
  by_cases c0 : cd (V 8) len (st (V 8) len t) = 300
  · obtain ⟨n1, n2⟩ := nx 0 (by omega) c0
    rw [if_pos c0, decide_eq_true c0, if_neg (show ¬ (b2 true = 0) by decide)]
    exact wrapQ (plankT hn h hI hB n1 n2)
  rw [if_neg c0, decide_eq_false c0, if_pos (show b2 false = 0 by decide), w5, bd_s]
  by_cases c1 : cd (V 8) len (st (V 8) len t) = 301
  · obtain ⟨n1, n2⟩ := nx 1 (by omega) c1
    rw [if_pos c1, decide_eq_true c1, if_neg (show ¬ (b2 true = 0) by decide), c1]
    exact wrapQ (ofhT hn h hI hB n1 n2 (b := st (V 8) len t) false)
  rw [if_neg c1, decide_eq_false c1, if_pos (show b2 false = 0 by decide), w6, bd_s]
  by_cases c2 : cd (V 8) len (st (V 8) len t) = 302
  · obtain ⟨n1, n2⟩ := nx 2 (by omega) c2
    rw [if_pos c2, decide_eq_true c2, if_neg (show ¬ (b2 true = 0) by decide), c2]
    exact wrapQ (ofhT hn h hI hB n1 n2 (b := st (V 8) len t) true)
  rw [if_neg c2, decide_eq_false c2, if_pos (show b2 false = 0 by decide), w7, bd_s]
  by_cases c3 : cd (V 8) len (st (V 8) len t) = 303
  · obtain ⟨n1, n2⟩ := nx 3 (by omega) c3
    rw [if_pos c3, decide_eq_true c3, if_neg (show ¬ (b2 true = 0) by decide)]
    exact wrapQ (thingT hn h hI hB n1 n2)
  rw [if_neg c3, decide_eq_false c3, if_pos (show b2 false = 0 by decide), w8, bd_s]
  by_cases c4 : cd (V 8) len (st (V 8) len t) = 304
  · obtain ⟨n1, n2⟩ := nx 4 (by omega) c4
    rw [if_pos c4, decide_eq_true c4, if_neg (show ¬ (b2 true = 0) by decide), c4, set304]
    refine wrapQ (setT hn h hI hB n1 n2 (b := st (V 8) len t) (f := 2) (a := 5) (by omega) (by omega) (lo := 0) (hi := 99) (fun x hx h1 h2 => ?_))
    exact ⟨hB.u_snow hI x, hI.u_snow x (J_rng2 (a := 0) (b := 99) h1 h2 (by omega) (by omega))⟩
  rw [if_neg c4, decide_eq_false c4, if_pos (show b2 false = 0 by decide), w9, bd_s]
  by_cases c5 : cd (V 8) len (st (V 8) len t) = 305
  · obtain ⟨n1, n2⟩ := nx 5 (by omega) c5
    rw [if_pos c5, decide_eq_true c5, if_neg (show ¬ (b2 true = 0) by decide), c5, set305]
    refine wrapQ (setT hn h hI hB n1 n2 (b := st (V 8) len t) (f := 3) (a := 6) (by omega) (by omega) (lo := 1) (hi := 40) (fun x hx h1 h2 => ?_))
    exact ⟨hB.u_step hI x, hI.u_step x (J_rng2 (a := 1) (b := 40) h1 h2 (by omega) (by omega))⟩
  rw [if_neg c5, decide_eq_false c5, if_pos (show b2 false = 0 by decide), w10, bd_s]
  by_cases c6 : cd (V 8) len (st (V 8) len t) = 306
  · obtain ⟨n1, n2⟩ := nx 6 (by omega) c6
    rw [if_pos c6, decide_eq_true c6, if_neg (show ¬ (b2 true = 0) by decide), c6, set306]
    exact wrapQ (setT hn h hI hB n1 n2 (b := st (V 8) len t) (f := 4) (a := 7) (by omega) (by omega) (lo := 0) (hi := 100) (fun x hx h1 h2 => ⟨hB.u_fall hI x, hI.u_fall x⟩))
  rw [if_neg c6, decide_eq_false c6, if_pos (show b2 false = 0 by decide), w11, bd_s]
  by_cases c7 : cd (V 8) len (st (V 8) len t) = 307
  · obtain ⟨n1, n2⟩ := nx 7 (by omega) c7
    rw [if_pos c7, decide_eq_true c7, if_neg (show ¬ (b2 true = 0) by decide), c7, set307]
    exact wrapQ (setT hn h hI hB n1 n2 (b := st (V 8) len t) (f := 5) (a := 8) (by omega) (by omega) (lo := 0) (hi := 100) (fun x hx h1 h2 => ⟨hB.u_thieves hI x, hI.u_thieves x⟩))
  rw [if_neg c7, decide_eq_false c7, if_pos (show b2 false = 0 by decide), w12, bd_s]
  simp only [jn_s]
  by_cases c8 : cd (V 8) len (st (V 8) len t) = 308
  · obtain ⟨n1, n2⟩ := nx 8 (by omega) c8
    rw [if_pos c8, decide_eq_true c8, if_neg (show ¬ (b2 true = 0) by decide), c8, set308]
    have hS := setT (R := R) (X := X) hn h hI hB n1 n2 (b := st (V 8) len t) (f := 6) (a := 9) (by omega) (by omega) (lo := 0) (hi := 99) (fun x hx h1 h2 => ⟨hB.u_fee hI x, hI.u_fee x⟩)
    refine ok2_bd hS ?_
    rintro a c hq
    obtain ⟨i1, i2⟩ := hq.isb1
    rw [if_pos i1]
    have e2 : (if c.1 = 0 then some ((0 : Int32), c.2) else some (1, c.2)) = some (c.1, c.2) := by
      rcases i2 with i2 | i2
      · rw [if_pos i2, i2]
      · rw [if_neg (by rw [i2]; decide), i2]
    rw [e2]
    exact ok2_some hq
  rw [if_neg c8, decide_eq_false c8, if_pos (show b2 false = 0 by decide)]
  exact ok2_some (.inr ⟨rfl, rfl, t, _, V, rfl, ht, rfl, Fr.rfl _ _⟩)
/-- what reading a whole text gives -/
def HA (R U : St) (a : Int32 × St × St) (c : Int32 × St) : Prop :=
  Fr [2] R a.2.1 ∧ ∃ V' p' b', c.2 = PB V' p' b' ∧ Fr [1] U V' ∧ ((a.1 = -1 ∧ (∃ k, c.1 = J k ∧ k < 100) ∧ HB a.2.2 (V' 1) ∧ WInv (V' 1) ∧ ∀ k, (82 ≤ k ∨ k = 2 ∨ k = 3 ∨ k = 10) → V' 1 k = U 1 k) ∨ (a.1 = J b' ∧ b' ≤ 400 ∧ c.1 = -1))
theorem linesT {n : Nat} (hn : 5000 < n) {tok R U X : St} {len N : Nat} (h : CXt tok U len N) (hR : R 1 0 = 14) (hI : WInv (U 1)) (hB : HB X (U 1)) {p b : Nat} (hp : JC U len p 0) :
    Ok2 (lp (fun (rc5 : Int32 × St × St → Option (Int32 × St × St)) (x5l : Int32 × St × St) =>
(if (x5l.2.1 1 0) ≤ x5l.1 then
bd (m_X10_start n tok (x5l.2.1 2 0)) (fun t4 =>
some (t4, x5l.2.1, x5l.2.2))
else
bd (m_X4_readLine n x5l.2.1 tok x5l.2.2) (fun t6 =>
(if t6.1 = 0 then
bd (m_X10_start n tok (t6.2.1 2 0)) (fun t10 =>
some (t10, t6.2.1, t6.2.2))
else
bd (m_X9_skip_X4 n t6.2.1 tok t6.2.2 259) (fun t7 =>
(if t7.1 = 0 then
bd (m_X9_skip_X4 n t7.2 tok t6.2.2 59) (fun t8 =>
(if t8.1 = 0 then
bd (m_X10_start n tok (t8.2 2 0)) (fun t9 =>
some (t9, t8.2, t6.2.2))
else
rc5 ((x5l.1 + 1), t8.2, t6.2.2)))
else
some ((-1), t7.2, t6.2.2))))))) n (0, RT R 0, X))
    (lp (fun (rc4 : Int32 × St → Option (Int32 × St)) (x4l : Int32 × St) =>
bd (m_X12_readLine n x4l.2 1 x4l.1) (fun t5 =>
(if t5.1 = 0 then
some ((-1), t5.2)
else
bd (m_X12_blanks n t5.2) (fun t6 =>
(if (t6 10 0) = (t6 11 0) then
some ((x4l.1 + 1), t6)
else
bd (m_X12_isAt n t6 59 59) (fun t7 =>
(if t7 = 0 then
some ((-1), t6)
else
nm (su t6 10 0 ((t6 10 0) + 1)) (fun u8 =>
rc4 ((x4l.1 + 1), u8))))))))) n (0, PB U p b)) (HA R U) := by
  have hl := h.1.1
  have hN : N ≤ len := h.2.1.1
  refine ok2_lp (I := fun m x y => ∃ ln t V' p' b' X', x = (J ln, RT R t, X') ∧ y = (J ln, PB V' p' b') ∧ m = N - t ∧ t ≤ N ∧ ln ≤ 14 ∧ JC U len p' t ∧ Fr [1] U V' ∧ HB X' (V' 1) ∧ WInv (V' 1) ∧ ∀ k, (82 ≤ k ∨ k = 2 ∨ k = 3 ∨ k = 10) → V' 1 k = U 1 k) ?_ n n N _ _ ⟨0, 0, U, p, b, X, rfl, rfl, rfl, Nat.zero_le _, by omega, hp, Fr.rfl _ _, hB, hI, fun _ _ => rfl⟩ (by omega) (by omega)
  rintro rC rR m _ _ ⟨ln, t, V', p', b', X', rfl, rfl, rfl, ht, hln, hj, hf, hB', hI', hcell⟩ ih
  have e8 : V' 8 = U 8 := hf 8 (by simp)
  have h' : CXt tok V' len N := h.eq e8 (by rw [hf 11 (by simp)])
  have hj' : JC V' len p' t := hj.eq e8
  have hst : ∀ t, st (V' 8) len t = st (U 8) len t := fun t => by rw [e8]
  dsimp only
  have hR1 : RT R t 1 0 = 14 := by rw [show RT R t 1 = R 1 from su_n _ _ _ _ (by decide)]; exact hR
  have fR : ∀ t, Fr [2] R (RT R t) := fun t => (Fr.rfl _ _).put (by simp) _ _
  -- the reference's line
  unfold m_X12_readLine
  rw [lettersT hn h' hj', bd_s, if_neg (show ¬ ((1 : Int32) = 0) by decide), bd_s]
  simp only [jn_s, hR1]
  by_cases q : 14 ≤ ln
  · rw [if_pos (by rw [show (14 : Int32) = J 14 from rfl, J_le (by omega) (by omega)]; exact q), if_pos (by rw [show (14 : Int32) = J 14 from rfl, J_le (by omega) (by omega)]; exact q), RT_at, startX n hl h.2.1 ht, bd_s, bd_s]
    dsimp only
    rw [if_pos rfl, hst]
    exact ok2_some ⟨fR t, V', _, _, rfl, hf, .inr ⟨rfl, by have := stt_le (U 8) len t; omega, rfl⟩⟩
  · rw [if_neg (by rw [show (14 : Int32) = J 14 from rfl, J_le (by omega) (by omega)]; exact q), if_neg (by rw [show (14 : Int32) = J 14 from rfl, J_le (by omega) (by omega)]; exact q), if_neg (show ¬ ((1 : Int32) = 0) by decide)]
    obtain ⟨⟨a1, a2, a3⟩, ⟨c1, c2⟩, x1, y1, hq⟩ := lineT (R := R) hn h' hI' hB' ht
    rw [x1, y1, bd_s, bd_s]
    dsimp only
    rcases hq with ⟨r1, r2, t', p2, b2', V2, r3, r4, r5, r6, r7, r8, r9, r10, r11⟩ | ⟨r1, r2, t', p2, V2, r3, r4, r6, r8⟩
    · dsimp only at r1 r2 r3 r6 r9
      subst r1 r2 r3 r6
      have g8 : V2 8 = U 8 := by rw [r8 8 (by simp)]; exact e8
      have h2 : CXt tok V2 len N := h.eq g8 (by rw [r8 11 (by simp), hf 11 (by simp)])
      have hj2 : JC V2 len p2 t' := r7.eq (r8 8 (by simp))
      have hf2 : Fr [1] U V2 := hf.tr r8
      have hcell2 : ∀ k, (82 ≤ k ∨ k = 2 ∨ k = 3 ∨ k = 10) → V2 1 k = U 1 k := fun k hk => (r11 k hk).trans (hcell k hk)
      rw [if_neg (show ¬ ((1 : Int32) = 0) by decide), if_neg (show ¬ ((1 : Int32) = 0) by decide), bd_s]
      dsimp only
      rw [if_neg (show ¬ ((1 : Int32) = 0) by decide), skip4 n hl h.2.1 r4, bd_s, blanksR hn h2.1 hj2.1, hj2.2, bd_s, PB_p, PB_n _ _ _ (f := 11) (by decide) (by decide), h2.1.2]
      have hend := end_cd hl h.2.2 (stt_le (U 8) len t')
      rw [g8]
      have hsl := stt_le (U 8) len t'
      by_cases qe : st (U 8) len t' = len
      · rw [if_pos (hend.mpr qe), if_pos (show J (st (U 8) len t') = J len by rw [qe])]
        dsimp only
        rw [if_neg (show ¬ ((1 : Int32) = 0) by decide), J_succ]
        exact ok2_some ⟨fR _, V2, _, _, rfl, hf2, .inl ⟨rfl, ⟨ln + 1, rfl, by omega⟩, r9, r10, hcell2⟩⟩
      · rw [if_neg (fun g => qe (hend.mp g)), if_neg (show ¬ J (st (U 8) len t') = J len by rw [J_inj (by omega) (by omega)]; exact qe)]
        dsimp only
        rw [if_pos rfl, skip4 n hl h.2.1 r4, bd_s, isAtR n h2.1 (by omega), bd_s, g8]
        have hsg := sign_cd hl h.2.2 (stt_le (U 8) len t') (c := 59) (by omega) (by decide) (by decide)
        by_cases qs : cd (U 8) len (st (U 8) len t') = 59
        · obtain ⟨z1, z2⟩ := hsg.mpr qs
          have z2' : U 8 (st (U 8) len t') = 59 := z2
          rw [if_pos qs, decide_eq_true (⟨z1, by rw [z2']; decide, by rw [z2']; decide⟩ : _ ∧ (59 : Int32) ≤ _ ∧ _ ≤ (59 : Int32)), if_neg (show ¬ (b2 true = 0) by decide), nm_s, J_succ (st (U 8) len t'), PB_10]
          dsimp only
          rw [if_neg (show ¬ ((1 : Int32) = 0) by decide), J_succ ln]
          have htN : t' < N := h.lt r4 z1
          have ht1 : te (U 8) len (st (U 8) len t') = st (U 8) len t' + 1 := by unfold te; rw [z2']; rfl
          refine ih (N - (t' + 1)) _ _ (by omega) ⟨ln + 1, t' + 1, V2, st (U 8) len t' + 1, _, _, rfl, rfl, rfl, by omega, by omega, ⟨by omega, ?_⟩, hf2, r9, r10, hcell2⟩
          rw [st_succ (U 8) z1, ht1]
        · rw [if_neg qs, decide_eq_false (fun g => qs (hsg.mp ⟨g.1, by show U 8 _ = (59 : Int32); grind⟩)), if_pos (show b2 false = 0 by decide)]
          dsimp only
          rw [if_pos rfl, RT_at, startX n hl h.2.1 r4, bd_s]
          exact ok2_some ⟨fR _, V2, _, _, rfl, hf2, .inr ⟨rfl, by omega, rfl⟩⟩
    · dsimp only at r1 r2 r3 r6
      subst r1 r2 r3 r6
      rw [if_pos rfl, if_pos rfl, bd_s]
      dsimp only
      rw [if_pos rfl, RT_at, startX n hl h.2.1 r4, bd_s, hst]
      exact ok2_some ⟨fR _, V2, _, _, rfl, hf.tr r8, .inr ⟨rfl, by have := stt_le (U 8) len t'; omega, rfl⟩⟩
theorem readHT {n : Nat} (hn : 5000 < n) {tok R U X : St} {len N : Nat} (h : CXt tok U len N) (hR : R 1 0 = 14) (hI : WInv (U 1)) (hB : HB X (U 1)) {b : Nat} :
    Ok2 (m_X9_read_X4 n R tok X) (bd (m_X12_blanks n (PB U 0 b)) (fun t3 =>
(if (t3 10 0) = (t3 11 0) then
some (0, t3)
else
lp (fun (rc4 : Int32 × St → Option (Int32 × St)) (x4l : Int32 × St) =>
bd (m_X12_readLine n x4l.2 1 x4l.1) (fun t5 =>
(if t5.1 = 0 then
some ((-1), t5.2)
else
bd (m_X12_blanks n t5.2) (fun t6 =>
(if (t6 10 0) = (t6 11 0) then
some ((x4l.1 + 1), t6)
else
bd (m_X12_isAt n t6 59 59) (fun t7 =>
(if t7 = 0 then
some ((-1), t6)
else
nm (su t6 10 0 ((t6 10 0) + 1)) (fun u8 =>
rc4 ((x4l.1 + 1), u8))))))))) n (0, t3)))) (HA R U) := by
  have hl := h.1.1
  unfold m_X9_read_X4
  have e0 : sk (U 8) len 0 = st (U 8) len 0 := by rw [st]
  rw [nm_s, show (su R 2 0 0) = RT R 0 from rfl, RT_at, codeX n hl h.2.1 (Nat.zero_le _), bd_s, blanksR hn h.1 (Nat.zero_le _), e0, bd_s, PB_p, PB_n _ _ _ (f := 11) (by decide) (by decide), h.1.2]
  simp only [jn_s]
  have hend := end_cd hl h.2.2 (stt_le (U 8) len 0)
  have hsl := stt_le (U 8) len 0
  by_cases qe : st (U 8) len 0 = len
  · rw [if_pos (hend.mpr qe), if_pos (by rw [qe])]
    exact ok2_some ⟨(Fr.rfl _ _).put (by simp) _ _, U, _, _, rfl, Fr.rfl _ _, .inl ⟨rfl, ⟨0, rfl, by omega⟩, hB, hI, fun _ _ => rfl⟩⟩
  · rw [if_neg (fun g => qe (hend.mp g)), if_neg (by rw [J_inj (by omega) (by omega)]; exact qe)]
    exact linesT hn h hR hI hB (JC.st U len 0)
end PHILLR3
