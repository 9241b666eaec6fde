section PLAWR7
theorem lineLT {n : Nat} (hn : 5000 < n) {tok R V L : St} {len N : Nat} (h : CXt tok V len N) {t s ln : Nat} (hK : KL L V ln s) (hln : ln < 12) (hst : s ≤ t) (ht : t ≤ N) :
    Ok2 (m_X6_readLine n (RT R t) tok L) (m_X12_readLawLine n (PB V (le_ (V 8) len (st (V 8) len t)) (st (V 8) len t)) (J ln)) (QL R V L len N t ln) := by
  have hl := h.1.1
  have w23 : m_X12_isWord n (PB V (le_ (V 8) len (st (V 8) len t)) (st (V 8) len t)) 23 = some (b2 (decide (cd (V 8) len (st (V 8) len t) = 312))) := wordT hn h t (s := 23) (by omega) (by omega)
  have w24 : m_X12_isWord n (PB V (le_ (V 8) len (st (V 8) len t)) (st (V 8) len t)) 24 = some (b2 (decide (cd (V 8) len (st (V 8) len t) = 313))) := wordT hn h t (s := 24) (by omega) (by omega)
  have w1 : m_X12_isWord n (PB V (le_ (V 8) len (st (V 8) len t)) (st (V 8) len t)) 1 = some (b2 (decide (cd (V 8) len (st (V 8) len t) = 311))) := wordT hn h t (s := 1) (by omega) (by omega)
  have nx : ∀ k, k < 25 → cd (V 8) len (st (V 8) len t) = J (300 + k) → t < N ∧ JC V len (le_ (V 8) len (st (V 8) len t)) (t + 1) := fun k hk hc => nextW h ht hk hc
  unfold m_X6_readLine m_X12_readLawLine
  rw [nm_s, (lawAt ln).1, RT_at, codeX n hl h.2.1 ht, bd_s, w23, bd_s, w24, bd_s, w1, bd_s]
  simp only [jn_s]
  by_cases c0 : cd (V 8) len (st (V 8) len t) = 312
  · obtain ⟨n1, n2⟩ := nx 12 (by omega) c0
    rw [if_pos c0, decide_eq_true c0, if_neg (show ¬ (b2 true = 0) by decide), bd_s, c0]
    exact lineK hn h hK hln hst n1 n2 (kc := 312) (k := 0) rfl (.inl rfl)
  by_cases c1 : cd (V 8) len (st (V 8) len t) = 313
  · obtain ⟨n1, n2⟩ := nx 13 (by omega) c1
    rw [if_neg c0, if_pos c1, decide_eq_false c0, if_pos (show b2 false = 0 by decide), decide_eq_true c1, if_neg (show ¬ (b2 true = 0) by decide), bd_s, c1]
    exact lineK hn h hK hln hst n1 n2 (kc := 313) (k := 1) rfl (.inr (.inl rfl))
  by_cases c2 : cd (V 8) len (st (V 8) len t) = 311
  · obtain ⟨n1, n2⟩ := nx 11 (by omega) c2
    rw [if_neg c0, if_neg c1, if_pos c2, decide_eq_false c0, if_pos (show b2 false = 0 by decide), decide_eq_false c1, if_pos (show b2 false = 0 by decide), decide_eq_true c2, if_neg (show ¬ (b2 true = 0) by decide), bd_s, c2]
    exact lineK hn h hK hln hst n1 n2 (kc := 311) (k := 2) rfl (.inr (.inr rfl))
  have ix0 : ix (J (1232 + 4 * ln)) 2080 := J_ix (by omega) (by omega)
  have ek : ∀ p b, PB (su V 1 (1232 + 4 * ln) (-1)) p b 1 (1232 + 4 * ln) = -1 := fun p b => by rw [PB_n _ _ _ (by decide) (by decide), su_e, upd_e]
  rw [if_neg c0, if_neg c1, if_neg c2, decide_eq_false c0, if_pos (show b2 false = 0 by decide), decide_eq_false c1, if_pos (show b2 false = 0 by decide), decide_eq_false c2, if_pos (show b2 false = 0 by decide), bd_s, if_pos ix0, nm_s, if_pos ix0, J_nat (by omega), su_PB _ _ _ (by decide) (by decide), ek, if_neg (show ¬ ((0 : Int32) ≤ -1) by decide)]
  refine ok2_some (.inr ⟨t, _, _, L, rfl, rfl, ht, (Fr.rfl _ _).put (by simp) _ _, fun k hk => ?_⟩)
  rw [su_e, upd_n _ _ _ (by omega)]
/-- what reading a whole law gives -/
def LA (R U : St) (a : Int32 × St × St) (c : Int32 × St) : Prop :=
  Fr [2] R a.2.1 ∧ ∃ V' p' b', c.2 = PB V' p' b' ∧ Fr [1, 13, 16] U V' ∧ (∀ k, k < 1232 → V' 1 k = U 1 k) ∧ ((a.1 = -1 ∧ ∃ ln s, ln ≤ 12 ∧ s ≤ 400 ∧ c.1 = J ln ∧ KL a.2.2 V' ln s) ∨ (a.1 = J b' ∧ b' ≤ 400 ∧ c.1 = -1))
theorem linesLT {n : Nat} (hn : 5000 < n) {tok R U L : St} {len N : Nat} (h : CXt tok U len N) (hR : R 1 0 = 12) (hK : KL L U 0 0) {p b : Nat} (hp : JC U len p 0) :
    Ok2 (lp (fun (rc5 : Int32 × St × St → Option (Int32 × St × St)) (x5l : Int32 × St × St) =>
(if (x5l.2.1 1 0) ≤ x5l.1 then
bd (m_X10_start n tok (x5l.2.1 2 0)) (fun t4 =>
some (t4, x5l.2.1, x5l.2.2))
else
bd (m_X6_readLine n x5l.2.1 tok x5l.2.2) (fun t6 =>
(if t6.1 = 0 then
bd (m_X10_start n tok (t6.2.1 2 0)) (fun t10 =>
some (t10, t6.2.1, t6.2.2))
else
bd (m_X9_skip_X6 n t6.2.1 tok t6.2.2 259) (fun t7 =>
(if t7.1 = 0 then
bd (m_X9_skip_X6 n t7.2 tok t6.2.2 59) (fun t8 =>
(if t8.1 = 0 then
bd (m_X10_start n tok (t8.2 2 0)) (fun t9 =>
some (t9, t8.2, t6.2.2))
else
rc5 ((x5l.1 + 1), t8.2, t6.2.2)))
else
some ((-1), t7.2, t6.2.2))))))) n (0, RT R 0, L))
    (lp (fun (rc4 : Int32 × St → Option (Int32 × St)) (x4l : Int32 × St) =>
bd (m_X12_readLine n x4l.2 0 x4l.1) (fun t5 =>
(if t5.1 = 0 then
some ((-1), t5.2)
else
bd (m_X12_blanks n t5.2) (fun t6 =>
(if (t6 10 0) = (t6 11 0) then
some ((x4l.1 + 1), t6)
else
bd (m_X12_isAt n t6 59 59) (fun t7 =>
(if t7 = 0 then
some ((-1), t6)
else
nm (su t6 10 0 ((t6 10 0) + 1)) (fun u8 =>
rc4 ((x4l.1 + 1), u8))))))))) n (0, PB U p b)) (LA R U) := by
  have hl := h.1.1
  have hN : N ≤ len := h.2.1.1
  refine ok2_lp (I := fun m x y => ∃ ln t V' p' b' L' s, x = (J ln, RT R t, L') ∧ y = (J ln, PB V' p' b') ∧ m = N - t ∧ t ≤ N ∧ ln ≤ 12 ∧ JC U len p' t ∧ Fr [1, 13, 16] U V' ∧ (∀ k, k < 1232 → V' 1 k = U 1 k) ∧ KL L' V' ln s ∧ s ≤ t) ?_ n n N _ _ ⟨0, 0, U, p, b, L, 0, rfl, rfl, rfl, Nat.zero_le _, by omega, hp, Fr.rfl _ _, fun _ _ => rfl, hK, Nat.le_refl _⟩ (by omega) (by omega)
  rintro rC rR m _ _ ⟨ln, t, V', p', b', L', s, rfl, rfl, rfl, ht, hln, hj, hf, hcell, hK', hst'⟩ ih
  have e8 : V' 8 = U 8 := hf 8 (by simp)
  have h' : CXt tok V' len N := h.eq e8 (by rw [hf 11 (by simp)])
  have hj' : JC V' len p' t := hj.eq e8
  have hst : ∀ t, st (V' 8) len t = st (U 8) len t := fun t => by rw [e8]
  dsimp only
  have hR1 : RT R t 1 0 = 12 := by rw [show RT R t 1 = R 1 from su_n _ _ _ _ (by decide)]; exact hR
  have fR : ∀ t, Fr [2] R (RT R t) := fun t => (Fr.rfl _ _).put (by simp) _ _
  -- the reference's line
  unfold m_X12_readLine
  rw [lettersT hn h' hj', bd_s, if_pos (show ((0 : Int32) = 0) by decide), bd_s]
  simp only [jn_s, hR1]
  by_cases q : 12 ≤ ln
  · rw [if_pos (by rw [show (12 : Int32) = J 12 from rfl, J_le (by omega) (by omega)]; exact q), if_pos (by rw [show (12 : Int32) = J 12 from rfl, J_le (by omega) (by omega)]; exact q), RT_at, startX n hl h.2.1 ht, bd_s, bd_s]
    dsimp only
    rw [if_pos rfl, hst]
    exact ok2_some ⟨fR t, V', _, _, rfl, hf, hcell, .inr ⟨rfl, by have := stt_le (U 8) len t; omega, rfl⟩⟩
  · rw [if_neg (by rw [show (12 : Int32) = J 12 from rfl, J_le (by omega) (by omega)]; exact q), if_neg (by rw [show (12 : Int32) = J 12 from rfl, J_le (by omega) (by omega)]; exact q)]
    simp only [if_true]
    obtain ⟨a, c, x1, y1, hq⟩ := lineLT (R := R) hn h' hK' (by omega) hst' ht
    rw [x1, y1, bd_s, bd_s]
    rcases hq with ⟨t', p2, b2', V2, L2, s2, rfl, rfl, r4, r5, r7, r8, r9, r10, r11⟩ | ⟨t', p2, V2, L2, rfl, rfl, r4, r8, r9⟩
    · dsimp only
      have g8 : V2 8 = U 8 := by rw [r8 8 (by simp)]; exact e8
      have h2 : CXt tok V2 len N := h.eq g8 (by rw [r8 11 (by simp), hf 11 (by simp)])
      have hj2 : JC V2 len p2 t' := r7.eq (r8 8 (by simp))
      have hf2 : Fr [1, 13, 16] U V2 := hf.tr r8
      have hcell2 : ∀ k, k < 1232 → V2 1 k = U 1 k := fun k hk => (r9 k hk).trans (hcell k hk)
      rw [if_neg (show ¬ ((1 : Int32) = 0) by decide), if_neg (show ¬ ((1 : Int32) = 0) by decide), bd_s]
      dsimp only
      rw [if_neg (show ¬ ((1 : Int32) = 0) by decide), skip6 n hl h.2.1 r4, bd_s, blanksR hn h2.1 hj2.1, hj2.2, bd_s, PB_p, PB_n _ _ _ (f := 11) (by decide) (by decide), h2.1.2]
      have hend := end_cd hl h.2.2 (stt_le (U 8) len t')
      rw [g8]
      have hsl := stt_le (U 8) len t'
      by_cases qe : st (U 8) len t' = len
      · rw [if_pos (hend.mpr qe), if_pos (show J (st (U 8) len t') = J len by rw [qe])]
        dsimp only
        rw [if_neg (show ¬ ((1 : Int32) = 0) by decide), J_succ]
        exact ok2_some ⟨fR _, V2, _, _, rfl, hf2, hcell2, .inl ⟨rfl, ln + 1, s2, by omega, by omega, rfl, r10⟩⟩
      · rw [if_neg (fun g => qe (hend.mp g)), if_neg (show ¬ J (st (U 8) len t') = J len by rw [J_inj (by omega) (by omega)]; exact qe)]
        dsimp only
        rw [if_pos rfl, skip6 n hl h.2.1 r4, bd_s, isAtR n h2.1 (by omega), bd_s, g8]
        have hsg := sign_cd hl h.2.2 (stt_le (U 8) len t') (c := 59) (by omega) (by decide) (by decide)
        by_cases qs : cd (U 8) len (st (U 8) len t') = 59
        · obtain ⟨z1, z2⟩ := hsg.mpr qs
          have z2' : U 8 (st (U 8) len t') = 59 := z2
          rw [if_pos qs, decide_eq_true (⟨z1, by rw [z2']; decide, by rw [z2']; decide⟩ : _ ∧ (59 : Int32) ≤ _ ∧ _ ≤ (59 : Int32)), if_neg (show ¬ (b2 true = 0) by decide), nm_s, J_succ (st (U 8) len t'), PB_10]
          dsimp only
          rw [if_neg (show ¬ ((1 : Int32) = 0) by decide), J_succ ln]
          have htN : t' < N := h.lt r4 z1
          have ht1 : te (U 8) len (st (U 8) len t') = st (U 8) len t' + 1 := by unfold te; rw [z2']; rfl
          refine ih (N - (t' + 1)) _ _ (by omega) ⟨ln + 1, t' + 1, V2, st (U 8) len t' + 1, _, _, s2, rfl, rfl, rfl, by omega, by omega, ⟨by omega, ?_⟩, hf2, hcell2, r10, by omega⟩
          rw [st_succ (U 8) z1, ht1]
        · rw [if_neg qs, decide_eq_false (fun g => qs (hsg.mp ⟨g.1, by show U 8 _ = (59 : Int32); grind⟩)), if_pos (show b2 false = 0 by decide)]
          dsimp only
          rw [if_pos rfl, RT_at, startX n hl h.2.1 r4, bd_s]
          exact ok2_some ⟨fR _, V2, _, _, rfl, hf2, hcell2, .inr ⟨rfl, by omega, rfl⟩⟩
    · dsimp only
      rw [if_pos rfl, if_pos rfl, bd_s]
      dsimp only
      rw [if_pos rfl, RT_at, startX n hl h.2.1 r4, bd_s, hst]
      exact ok2_some ⟨fR _, V2, _, _, rfl, hf.tr r8, fun k hk => (r9 k hk).trans (hcell k hk), .inr ⟨rfl, by have := stt_le (U 8) len t'; omega, rfl⟩⟩
theorem readLT {n : Nat} (hn : 5000 < n) {tok R U L : St} {len N : Nat} (h : CXt tok U len N) (hR : R 1 0 = 12) (hK : KL L U 0 0) {b : Nat} :
    Ok2 (m_X9_read_X6 n R tok L) (bd (m_X12_blanks n (PB U 0 b)) (fun t3 =>
(if (t3 10 0) = (t3 11 0) then
some (0, t3)
else
lp (fun (rc4 : Int32 × St → Option (Int32 × St)) (x4l : Int32 × St) =>
bd (m_X12_readLine n x4l.2 0 x4l.1) (fun t5 =>
(if t5.1 = 0 then
some ((-1), t5.2)
else
bd (m_X12_blanks n t5.2) (fun t6 =>
(if (t6 10 0) = (t6 11 0) then
some ((x4l.1 + 1), t6)
else
bd (m_X12_isAt n t6 59 59) (fun t7 =>
(if t7 = 0 then
some ((-1), t6)
else
nm (su t6 10 0 ((t6 10 0) + 1)) (fun u8 =>
rc4 ((x4l.1 + 1), u8))))))))) n (0, t3)))) (LA R U) := by
  have hl := h.1.1
  unfold m_X9_read_X6
  have e0 : sk (U 8) len 0 = st (U 8) len 0 := by rw [st]
  rw [nm_s, show (su R 2 0 0) = RT R 0 from rfl, RT_at, codeX n hl h.2.1 (Nat.zero_le _), bd_s, blanksR hn h.1 (Nat.zero_le _), e0, bd_s, PB_p, PB_n _ _ _ (f := 11) (by decide) (by decide), h.1.2]
  simp only [jn_s]
  have hend := end_cd hl h.2.2 (stt_le (U 8) len 0)
  have hsl := stt_le (U 8) len 0
  by_cases qe : st (U 8) len 0 = len
  · rw [if_pos (hend.mpr qe), if_pos (by rw [qe])]
    exact ok2_some ⟨(Fr.rfl _ _).put (by simp) _ _, U, _, _, rfl, Fr.rfl _ _, fun _ _ => rfl, .inl ⟨rfl, 0, 0, by omega, by omega, rfl, hK⟩⟩
  · rw [if_neg (fun g => qe (hend.mp g)), if_neg (by rw [J_inj (by omega) (by omega)]; exact qe)]
    exact linesLT hn h hR hK (JC.st U len 0)
end PLAWR7
