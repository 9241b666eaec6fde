section PLAWR3
/-- what a reader of a condition must do -/
def RD (n : Nat) (tok R : St) (len N : Nat) (fC : St → St → Option (Int32 × St × St)) (fR : St → Option (Int32 × St)) (deep x : Nat) : Prop :=
  ∀ (V L : St) (t s p b : Nat), CXt tok V len N → t ≤ N → s + 3 ≤ t → LD L V s → V 13 0 = J deep → JC V len p t → Ok2 (fC (RT R t) L) (fR (PB V p b)) (LQ R V L len N t s true x)
theorem joinT {n : Nat} (hn : 5000 < n) {tok R : St} {len N : Nat} {fC : St → St → Option (Int32 × St × St)} {fR : St → Option (Int32 × St)} {deep x : Nat} (hf : RD n tok R len N fC fR deep x) {w o : Nat} (hw : w < 26) (hw1 : 1 ≤ w) (ho : o = 13 ∨ o = 14) {code : Int32} (hcode : code = J (300 + wix w)) (hsg : -code = sgn o 0) :
    RD n tok R len N (fun v0 v2 => bd (fC v0 v2) (fun t1 =>
    (if t1.1 = 0 then
    some (0, t1.2.1, t1.2.2)
    else
    jn (fun (t2 : St × St) =>
    some (1, t2.1, t2.2)) (fun (K2 : St × St → Option (Int32 × St × St)) =>
    lp (fun (rc3 : Int32 × St × St → Option (Int32 × St × St)) (x3l : Int32 × St × St) =>
    (if 400 ≤ x3l.1 then
    K2 (x3l.2.1, x3l.2.2)
    else
    bd (m_X9_skip_X6 n x3l.2.1 tok x3l.2.2 code) (fun t4 =>
    (if t4.1 = 0 then
    K2 (t4.2, x3l.2.2)
    else
    bd (fC t4.2 x3l.2.2) (fun t5 =>
    (if t5.1 = 0 then
    some (0, t5.2.1, t5.2.2)
    else
    bd (m_X5_put n t5.2.2 (-code)) (fun t6 =>
    rc3 ((x3l.1 + 1), t5.2.1, t6)))))))) n (0, t1.2.1, t1.2.2)))))
    (fun v0 => bd (fR v0) (fun t1 =>
    (if t1.1 = 0 then
    some (0, t1.2)
    else
    lp (fun (rc2 : St → Option (Int32 × St)) (x2l : St) =>
    bd (m_X12_passes n x2l w) (fun t3 =>
    (if t3.1 = 0 then
    some (1, t3.2)
    else
    bd (fR t3.2) (fun t4 =>
    (if t4.1 = 0 then
    some (0, t4.2)
    else
    bd (m_X12_emits n t4.2 (J o) 0) (fun t5 =>
    rc2 t5)))))) n t1.2))) deep (x + 1) := by
  intro V L t s p b h ht hst hL h13 hp
  have hl := h.1.1
  have hN : N ≤ len := h.2.1.1
  refine ok2_bd (hf V L t s p b h ht hst hL h13 hp) ?_
  rintro a c (⟨t1, p1, b1, V1, L1, s1, rfl, rfl, hS⟩ | ⟨t1, p1, V1, L1, rfl, rfl, h1, h2, h3⟩)
  · dsimp only
    rw [if_neg (show ¬ ((1 : Int32) = 0) by decide), if_neg (show ¬ ((1 : Int32) = 0) by decide)]
    simp only [jn_s]
    refine ok2_lp (I := fun m y z => ∃ k t1 p1 b1 V1 L1 s1, y = (J k, RT R t1, L1) ∧ z = PB V1 p1 b1 ∧ m = N - t1 ∧ k + t + 1 ≤ t1 ∧ SU V L len N t s true (x + 1) t1 p1 V1 L1 s1) ?_ n n (N - t1) _ _ ⟨0, t1, p1, b1, V1, L1, s1, rfl, rfl, rfl, by have := hS.2.1; omega, hS.mono (by omega)⟩ (by omega) (by omega)
    rintro rC rR m _ _ ⟨k, t1, p1, b1, V1, L1, s1, rfl, rfl, rfl, hk, hS⟩ ih
    obtain ⟨hc1, e8⟩ := hS.cx h
    have ht1 : t1 ≤ N := hS.1
    have hsz : s1 + t ≤ s + t1 := hS.2.2.2.2.2.2.2.1
    dsimp only
    rw [if_neg (by rw [show (400 : Int32) = J 400 from rfl, J_le (by omega) (by omega)]; omega), skip6 n hl hc1.2.1 ht1, bd_s]
    rcases passT hn hc1 ht1 (hS.2.2.1.eq e8) (b := b1) hw hw1 with ⟨q, q2, p2, q3, e⟩ | ⟨q, e⟩
    · rw [if_pos (show cd (V1 8) len (st (V1 8) len t1) = code by rw [q, hcode]), e, bd_s]
      dsimp only
      rw [if_neg (show ¬ ((1 : Int32) = 0) by decide), if_neg (show ¬ ((1 : Int32) = 0) by decide)]
      have hLD : LD L1 V1 s1 := hS.2.2.2.2.2.1
      refine ok2_bd (hf V1 L1 (t1 + 1) s1 p2 (st (V1 8) len t1) hc1 (by omega) (by omega) hLD (by rw [hS.2.2.2.2.2.2.1]; exact h13) q3) ?_
      rintro a c (⟨t2, p3, b3, V2, L2, s2, rfl, rfl, hS2⟩ | ⟨t2, p3, V2, L2, rfl, rfl, g1, g2, g3⟩)
      · dsimp only
        have hsz2 : s2 + (t1 + 1) ≤ s1 + t2 := hS2.2.2.2.2.2.2.2.1
        have ht2 : t2 ≤ N := hS2.1
        have htt : t1 + 1 < t2 := hS2.2.1
        have hLD2 : LD L2 V2 s2 := hS2.2.2.2.2.2.1
        rw [if_neg (show ¬ ((1 : Int32) = 0) by decide), if_neg (show ¬ ((1 : Int32) = 0) by decide), puX n (by omega) hLD2.1, bd_s, emR n (by omega) hLD2.2.1, bd_s, J_succ k, hsg]
        have hty : ∀ ts, tyS o (true :: true :: ts) = some (true :: ts) := fun ts => by rcases ho with rfl | rfl <;> rfl
        exact ih (N - t2) _ _ (by omega) ⟨k + 1, t2, p3, b3, _, _, s2 + 1, rfl, rfl, rfl, by omega, SU.bin hS hS2 (by omega) (by omega) (by omega) (by omega) hty⟩
      · dsimp only
        rw [if_pos rfl, if_pos rfl]
        exact ok2_some (.inr ⟨t2, p3, V2, L2, rfl, by rw [e8], g1, hS.2.2.2.1.tr g2 hS.2.2.2.2.2.2.2.2.1, hS.2.2.2.2.1.1.tr g3⟩)
    · rw [if_neg (show ¬ cd (V1 8) len (st (V1 8) len t1) = code by rw [hcode]; exact q), e, bd_s]
      dsimp only
      rw [if_pos rfl, if_pos rfl]
      exact ok2_some (.inl ⟨t1, _, _, V1, L1, s1, rfl, rfl, hS.p (by rw [e8]; exact JC.st V len t1)⟩)
  · dsimp only
    rw [if_pos rfl, if_pos rfl]
    exact ok2_some (.inr ⟨t1, p1, V1, L1, rfl, rfl, h1, h2, h3⟩)
theorem allT {n : Nat} (hn : 5000 < n) {tok R : St} {len N dX dR deep x : Nat} (hf : RD n tok R len N (fun v0 v2 => G_X6_readAny n dX 2 v0 tok v2 (J deep) 0) (fun v0 => G_X12_readCond n dR 2 v0) deep x) : RD n tok R len N (fun v0 v2 => G_X6_readAny n (dX + 1) 1 v0 tok v2 (J deep) 0) (fun v0 => G_X12_readCond n (dR + 1) 1 v0) deep (x + 1) := by
  have := joinT hn hf (w := 21) (o := 13) (by omega) (by omega) (.inl rfl) (code := 316) rfl (by decide)
  intro V L t s p b h1 h2 h3 h4 h5 h6
  have hq := this V L t s p b h1 h2 h3 h4 h5 h6
  dsimp only at hq ⊢
  rw [G_X6_readAny, G_X12_readCond]
  exact hq
theorem anyT {n : Nat} (hn : 5000 < n) {tok R : St} {len N dX dR deep x : Nat} (hf : RD n tok R len N (fun v0 v2 => G_X6_readAny n dX 1 v0 tok v2 (J deep) 0) (fun v0 => G_X12_readCond n dR 1 v0) deep x) : RD n tok R len N (fun v0 v2 => G_X6_readAny n (dX + 1) 0 v0 tok v2 (J deep) 0) (fun v0 => G_X12_readCond n (dR + 1) 0 v0) deep (x + 1) := by
  have := joinT hn hf (w := 22) (o := 14) (by omega) (by omega) (.inr rfl) (code := 315) rfl (by decide)
  intro V L t s p b h1 h2 h3 h4 h5 h6
  have hq := this V L t s p b h1 h2 h3 h4 h5 h6
  dsimp only at hq ⊢
  rw [G_X6_readAny, G_X12_readCond]
  exact hq
/-- a change of the depth alone -/
theorem dV (V : St) (p b : Nat) (x : Int32) : su (PB V p b) 13 0 x = PB (su V 13 0 x) p b := su_PB _ _ _ (by decide) (by decide) _ _
theorem tagR {n : Nat} (hn : 5000 < n) {tok V L : St} {len N : Nat} (h : CXt tok V len N) {t s : Nat} (ht : t ≤ N) (hs : s < 400) (hL : LD L V s) {p b : Nat} (hp : JC V len p t) :
    (∃ o p', (o = 6 ∨ o = 7) ∧ cd (V 8) len (st (V 8) len t) = J (312 + o) ∧ t < N ∧ JC V len p' (t + 1) ∧ m_X12_readTag n (PB V p b) = some (1, PB (emV V s (J o) 0) p' (st (V 8) len t))) ∨
    (¬ cd (V 8) len (st (V 8) len t) = 318 ∧ ¬ cd (V 8) len (st (V 8) len t) = 319 ∧ m_X12_readTag n (PB V p b) = some (0, PB V (st (V 8) len t) (st (V 8) len t))) := by
  have w18 : m_X12_isWord n (PB V (le_ (V 8) len (st (V 8) len t)) (st (V 8) len t)) 18 = some (b2 (decide (cd (V 8) len (st (V 8) len t) = 318))) := wordT hn h t (s := 18) (by omega) (by omega)
  have w19 : m_X12_isWord n (PB V (le_ (V 8) len (st (V 8) len t)) (st (V 8) len t)) 19 = some (b2 (decide (cd (V 8) len (st (V 8) len t) = 319))) := wordT hn h t (s := 19) (by omega) (by omega)
  unfold m_X12_readTag
  rw [lettersT hn h hp, bd_s, w18, bd_s, w19, bd_s]
  by_cases c1 : cd (V 8) len (st (V 8) len t) = 318
  · obtain ⟨n1, n2⟩ := nextW h ht (k := 18) (by omega) c1
    refine .inl ⟨6, _, .inl rfl, c1, n1, n2, ?_⟩
    have e6 : m_X12_emits n (PB V (le_ (V 8) len (st (V 8) len t)) (st (V 8) len t)) 6 0 = some (PB (emV V s (J 6) 0) (le_ (V 8) len (st (V 8) len t)) (st (V 8) len t)) := emR n hs hL.2.1 _ _ _ _
    rw [decide_eq_true c1, if_neg (show ¬ (b2 true = 0) by decide), bd_s, if_neg (show ¬ ((6 : Int32) < 0) by decide), e6, bd_s, bd_s, if_neg (show ¬ ((6 : Int32) < 0) by decide)]
  · by_cases c2 : cd (V 8) len (st (V 8) len t) = 319
    · obtain ⟨n1, n2⟩ := nextW h ht (k := 19) (by omega) c2
      refine .inl ⟨7, _, .inr rfl, c2, n1, n2, ?_⟩
      have e7 : m_X12_emits n (PB V (le_ (V 8) len (st (V 8) len t)) (st (V 8) len t)) 7 0 = some (PB (emV V s (J 7) 0) (le_ (V 8) len (st (V 8) len t)) (st (V 8) len t)) := emR n hs hL.2.1 _ _ _ _
      rw [decide_eq_false c1, if_pos (show b2 false = 0 by decide), decide_eq_true c2, if_neg (show ¬ (b2 true = 0) by decide), bd_s, if_neg (show ¬ ((7 : Int32) < 0) by decide), e7, bd_s, bd_s, if_neg (show ¬ ((7 : Int32) < 0) by decide)]
    · refine .inr ⟨c1, c2, ?_⟩
      rw [decide_eq_false c1, if_pos (show b2 false = 0 by decide), decide_eq_false c2, if_pos (show b2 false = 0 by decide), bd_s, if_pos (show ((-1 : Int32) < 0) by decide), nm_s, bd_s, if_pos (show ((-1 : Int32) < 0) by decide), PB_b, PB_10]
/-- the comparison of two sums -/
theorem cmpT {n : Nat} (hn : 5000 < n) {tok R V L : St} {len N : Nat} (h : CXt tok V len N) {t s : Nat} (ht : t ≤ N) (hst : s + 3 ≤ t) (hL : LD L V s) {p b : Nat} (hp : JC V len p t) :
    Ok2 (bd (m_X6_readSum n (RT R t) tok L) (fun t8 =>
    (if t8.1 = 0 then
    some (0, t8.2.1, t8.2.2)
    else
    bd (m_X10_code n tok (t8.2.1 2 0)) (fun t9 =>
    (if t9 = 60 then
    nm (su t8.2.1 2 0 ((t8.2.1 2 0) + 1)) (fun u11 =>
    bd (m_X6_readSum n u11 tok t8.2.2) (fun t12 =>
    (if t12.1 = 0 then
    some (0, t12.2.1, t12.2.2)
    else
    bd (m_X5_put n t12.2.2 (-t9)) (fun t13 =>
    some (1, t12.2.1, t13)))))
    else
    (if t9 = 62 then
    nm (su t8.2.1 2 0 ((t8.2.1 2 0) + 1)) (fun u11 =>
    bd (m_X6_readSum n u11 tok t8.2.2) (fun t12 =>
    (if t12.1 = 0 then
    some (0, t12.2.1, t12.2.2)
    else
    bd (m_X5_put n t12.2.2 (-t9)) (fun t13 =>
    some (1, t12.2.1, t13)))))
    else
    some (0, t8.2.1, t8.2.2)))))))
    (bd (m_X12_readSum n (PB V p b)) (fun t4 =>
    (if t4.1 = 0 then
    some (0, t4.2)
    else
    bd (m_X12_sign n t4.2 60) (fun t5 =>
    (if t5.1 = 0 then
    bd (m_X12_sign n t5.2 62) (fun t10 =>
    (if t10.1 = 0 then
    some (0, t10.2)
    else
    bd (m_X12_readSum n t10.2) (fun t7 =>
    (if t7.1 = 0 then
    some (0, t7.2)
    else
    bd ((if t5.1 = 0 then
    some 11
    else
    some 10)) (fun (t8 : Int32) =>
    bd (m_X12_emits n t7.2 t8 0) (fun t9 =>
    some (1, t9)))))))
    else
    bd (m_X12_readSum n t5.2) (fun t7 =>
    (if t7.1 = 0 then
    some (0, t7.2)
    else
    bd ((if t5.1 = 0 then
    some 11
    else
    some 10)) (fun (t8 : Int32) =>
    bd (m_X12_emits n t7.2 t8 0) (fun t9 =>
    some (1, t9)))))))))) (LQ R V L len N t s true 3) := by
  have hl := h.1.1
  have hN : N ≤ len := h.2.1.1
  refine ok2_bd (sumT hn h ht hst hL hp) ?_
  rintro a c (⟨t1, p1, b1, V1, L1, s1, rfl, rfl, hS⟩ | ⟨t1, p1, V1, L1, rfl, rfl, h1, h2, h3⟩)
  · dsimp only
    obtain ⟨hc1, e8⟩ := hS.cx h
    have ht1 : t1 ≤ N := hS.1
    have hsz : s1 + t ≤ s + t1 := hS.2.2.2.2.2.2.2.1
    have hLD : LD L1 V1 s1 := hS.2.2.2.2.2.1
    rw [if_neg (show ¬ ((1 : Int32) = 0) by decide), if_neg (show ¬ ((1 : Int32) = 0) by decide), RT_at, codeX n hl hc1.2.1 ht1, bd_s]
    -- the rest behind the sign
    have rest : ∀ (o p2 b2 : Nat), (o = 10 ∨ o = 11) → t1 < N → JC V1 len p2 (t1 + 1) → Ok2 (bd (m_X6_readSum n (RT R (t1 + 1)) tok L1) (fun t12 => (if t12.1 = 0 then some (0, t12.2.1, t12.2.2) else bd (m_X5_put n t12.2.2 (sgn o 0)) (fun t13 => some (1, t12.2.1, t13))))) (bd (m_X12_readSum n (PB V1 p2 b2)) (fun t7 => (if t7.1 = 0 then some (0, t7.2) else bd (m_X12_emits n t7.2 (J o) 0) (fun t9 => some (1, t9))))) (LQ R V L len N t s true 3) := by
      intro o p2 b2 ho hlt hj
      refine ok2_bd (sumT hn hc1 (t := t1 + 1) (s := s1) (by omega) (by omega) hLD hj) ?_
      rintro a c (⟨t2, p3, b3, V2, L2, s2, rfl, rfl, hS2⟩ | ⟨t2, p3, V2, L2, rfl, rfl, g1, g2, g3⟩)
      · dsimp only
        have hsz2 : s2 + (t1 + 1) ≤ s1 + t2 := hS2.2.2.2.2.2.2.2.1
        have ht2 : t2 ≤ N := hS2.1
        have hLD2 : LD L2 V2 s2 := hS2.2.2.2.2.2.1
        rw [if_neg (show ¬ ((1 : Int32) = 0) by decide), if_neg (show ¬ ((1 : Int32) = 0) by decide), puX n (by omega) hLD2.1, bd_s, emR n (by omega) hLD2.2.1, bd_s]
        have hty : ∀ ts, tyS o (false :: false :: ts) = some (true :: ts) := fun ts => by rcases ho with rfl | rfl <;> rfl
        exact ok2_some (.inl ⟨t2, p3, b3, _, _, s2 + 1, rfl, rfl, SU.bin hS hS2 (by omega) (by omega) (by omega) (by omega) hty⟩)
      · dsimp only
        rw [if_pos rfl, if_pos rfl]
        exact ok2_some (.inr ⟨t2, p3, V2, L2, rfl, by rw [e8], g1, hS.2.2.2.1.tr g2 hS.2.2.2.2.2.2.2.2.1, hS.2.2.2.2.1.1.tr g3⟩)
    rcases signT hn hc1 ht1 (hS.2.2.1.eq e8) (b := b1) (c := 60) (by omega) (by decide) (by decide) with ⟨q, q2, p2, q3, e⟩ | ⟨q, e⟩
    · have e' : m_X12_sign n (PB V1 p1 b1) 60 = some (1, PB V1 p2 (st (V1 8) len t1)) := e
      have q' : cd (V1 8) len (st (V1 8) len t1) = 60 := q
      rw [if_pos q', e', bd_s, nm_s, J_succ, RT_RT, q']
      dsimp only
      rw [if_neg (show ¬ ((1 : Int32) = 0) by decide)]
      exact rest 10 p2 _ (.inl rfl) q2 q3
    · have e' : m_X12_sign n (PB V1 p1 b1) 60 = some (0, PB V1 (st (V1 8) len t1) (st (V1 8) len t1)) := e
      have q' : ¬ cd (V1 8) len (st (V1 8) len t1) = 60 := q
      rw [if_neg q', e', bd_s]
      dsimp only
      rw [if_pos rfl]
      rcases signT hn hc1 ht1 (JC.st V1 len t1) (b := st (V1 8) len t1) (c := 62) (by omega) (by decide) (by decide) with ⟨q, q2, p2, q3, e⟩ | ⟨q, e⟩
      · have e' : m_X12_sign n (PB V1 (st (V1 8) len t1) (st (V1 8) len t1)) 62 = some (1, PB V1 p2 (st (V1 8) len t1)) := e
        have q' : cd (V1 8) len (st (V1 8) len t1) = 62 := q
        rw [if_pos q', e', bd_s, nm_s, J_succ, RT_RT, q']
        dsimp only
        rw [if_neg (show ¬ ((1 : Int32) = 0) by decide)]
        exact rest 11 p2 _ (.inr rfl) q2 q3
      · have e' : m_X12_sign n (PB V1 (st (V1 8) len t1) (st (V1 8) len t1)) 62 = some (0, PB V1 (st (V1 8) len t1) (st (V1 8) len t1)) := e
        have q' : ¬ cd (V1 8) len (st (V1 8) len t1) = 62 := q
        rw [if_neg q', e', bd_s]
        dsimp only
        rw [if_pos rfl]
        exact ok2_some (.inr ⟨t1, _, V1, L1, rfl, by rw [e8], ht1, hS.2.2.2.1, hS.2.2.2.2.1.1⟩)
  · dsimp only
    rw [if_pos rfl, if_pos rfl]
    exact ok2_some (.inr ⟨t1, p1, V1, L1, rfl, rfl, h1, h2, h3⟩)
end PLAWR3
