section PLAWR2
theorem SU.p {V L : St} {len N t s : Nat} {b : Bool} {x : Nat} {t' p' : Nat} {V' L' : St} {s' : Nat} (h : SU V L len N t s b x t' p' V' L' s') {q : Nat} (hq : JC V len q t') : SU V L len N t s b x t' q V' L' s' := by
  obtain ⟨a1, a2, a3, a4⟩ := h
  exact ⟨a1, a2, hq, a4⟩
theorem SU.cx {tok V L : St} {len N t s : Nat} {b : Bool} {x : Nat} {t' p' : Nat} {V' L' : St} {s' : Nat} (h : SU V L len N t s b x t' p' V' L' s') (hc : CXt tok V len N) : CXt tok V' len N ∧ V' 8 = V 8 := by
  have hf := h.2.2.2.1.1
  exact ⟨hc.eq (hf 8 (by simp)) (by rw [hf 11 (by simp)]), hf 8 (by simp)⟩
def sumB (n : Nat) (v1 : St) (rc1 : Int32 × St × St → Option (Int32 × St × St)) (x1l : Int32 × St × St) : Option (Int32 × St × St) :=
(if 400 ≤ x1l.1 then
some (0, x1l.2.1, x1l.2.2)
else
bd (m_X10_code n v1 (x1l.2.1 2 0)) (fun t2 =>
bd (jn (fun (t12 : Unit) =>
some 1) (fun (K12 : Unit → Option (Int32)) =>
(if t2 = 302 then
K12 ()
else
jn (fun (t13 : Unit) =>
some 0) (fun (K13 : Unit → Option (Int32)) =>
(if t2 < 320 then
K13 ()
else
(if 324 < t2 then
K13 ()
else
K12 ())))))) (fun (t3 : Int32) =>
jn (fun (t4 : Unit) =>
bd ((if t3 = 0 then
bd (m_X10_value n v1 (x1l.2.1 2 0)) (fun t11 =>
some t11)
else
some (-t2))) (fun (t5 : Int32) =>
bd (m_X5_put n x1l.2.2 t5) (fun t6 =>
nm (su x1l.2.1 2 0 ((x1l.2.1 2 0) + 1)) (fun u7 =>
bd ((if x1l.1 ≤ 0 then
some t6
else
bd (m_X5_put n t6 (-43)) (fun t10 =>
some t10))) (fun (t8 : St) =>
bd (m_X9_skip_X6 n u7 v1 t8 43) (fun t9 =>
(if t9.1 = 0 then
some (1, t9.2, t8)
else
rc1 ((x1l.1 + 1), t9.2, t8)))))))) (fun (K4 : Unit → Option (Int32 × St × St)) =>
(if t3 = 0 then
(if t2 = 256 then
K4 ()
else
some (0, x1l.2.1, x1l.2.2))
else
K4 ())))))
theorem sumB_eq (n : Nat) (v0 v1 v2 : St) : m_X6_readSum n v0 v1 v2 = lp (sumB n v1) n (0, v0, v2) := by unfold m_X6_readSum; exact Eq.refl _
theorem sumB_s (n : Nat) {tok R L : St} {tp : Nat → Int32} {len N : Nat} (hl : len ≤ 400) (h : TK tok tp len N) {t k s : Nat} (ht : t ≤ N) (hk : k < 400) (hs : s + 1 < 400) (h5 : L 5 0 = J s) (rc : Int32 × St × St → Option (Int32 × St × St)) :
    (¬ (isF (cd tp len (st tp len t)) = true ∨ cd tp len (st tp len t) = 256) → sumB n tok rc (J k, RT R t, L) = some (0, RT R t, L)) ∧
    ((isF (cd tp len (st tp len t)) = true ∨ cd tp len (st tp len t) = 256) → t < N → ∀ x, (if isF (cd tp len (st tp len t)) then -(cd tp len (st tp len t)) else vl tp len (st tp len t)) = x → sumB n tok rc (J k, RT R t, L) = (if cd tp len (st tp len (t + 1)) = 43 then rc (J (k + 1), RT R (t + 2), if k = 0 then puL L s x else puL (puL L s x) (s + 1) (-43)) else some (1, RT R (t + 1), if k = 0 then puL L s x else puL (puL L s x) (s + 1) (-43)))) := by
  have e4 : ¬ (400 : Int32) ≤ J k := by rw [show (400 : Int32) = J 400 from rfl, J_le (by omega) (by omega)]; omega
  have hj : (jn (fun (t12 : Unit) => some (1 : Int32)) (fun (K12 : Unit → Option (Int32)) => (if cd tp len (st tp len t) = 302 then K12 () else jn (fun (t13 : Unit) => some 0) (fun (K13 : Unit → Option (Int32)) => (if cd tp len (st tp len t) < 320 then K13 () else (if 324 < cd tp len (st tp len t) then K13 () else K12 ())))))) = some (b2 (isF (cd tp len (st tp len t)))) := by
    unfold isF
    simp only [jn_s, ← nlt_le (cd tp len (st tp len t)) 320, ← nlt_le 324 (cd tp len (st tp len t))]
    by_cases a1 : cd tp len (st tp len t) = 302 <;> by_cases a2 : cd tp len (st tp len t) < 320 <;> by_cases a3 : 324 < cd tp len (st tp len t) <;> simp [a1, a2, a3, b2]
  have hv : m_X10_value n tok (RT R t 2 0) = some (vl tp len (st tp len t)) := by rw [RT_at]; exact valueX n hl h ht
  unfold sumB
  dsimp only
  rw [if_neg e4, hv, RT_at, codeX n hl h ht, bd_s, hj, bd_s]
  simp only [jn_s]
  constructor
  · intro g
    have g1 : isF (cd tp len (st tp len t)) = false := by cases hh : isF (cd tp len (st tp len t)) with
      | false => rfl
      | true => exact absurd (.inl hh) g
    rw [g1, if_pos (show b2 false = 0 by decide), if_neg (fun q => g (.inr q))]
  · rintro g htN x hx
    have hval : (if b2 (isF (cd tp len (st tp len t))) = 0 then bd (some (vl tp len (st tp len t))) (fun t11 => some t11) else some (-(cd tp len (st tp len t)))) = some x := by
      rw [← hx]
      cases isF (cd tp len (st tp len t)) <;> rfl
    have hL1 : (puL L s x) 5 0 = J (s + 1) := by unfold puL; rw [su_e, upd_e]
    have hp2 : (if J k ≤ 0 then some (puL L s x) else bd (m_X5_put n (puL L s x) (-43)) (fun t10 => some t10)) = some (if k = 0 then puL L s x else puL (puL L s x) (s + 1) (-43)) := by
      by_cases q : k = 0
      · rw [if_pos q, if_pos (by rw [q]; decide)]
      · rw [if_neg q, if_neg (by rw [show (0 : Int32) = J 0 from rfl, J_le (by omega) (by omega)]; omega), puX n hs hL1, bd_s]
    have tail : bd (if b2 (isF (cd tp len (st tp len t))) = 0 then bd (some (vl tp len (st tp len t))) (fun t11 => some t11) else some (-(cd tp len (st tp len t)))) (fun (t5 : Int32) =>
bd (m_X5_put n L t5) (fun t6 =>
nm (su (RT R t) 2 0 (J t + 1)) (fun u7 =>
bd ((if J k ≤ 0 then
some t6
else
bd (m_X5_put n t6 (-43)) (fun t10 =>
some t10))) (fun (t8 : St) =>
bd (m_X9_skip_X6 n u7 tok t8 43) (fun t9 =>
(if t9.1 = 0 then
some (1, t9.2, t8)
else
rc ((J k + 1), t9.2, t8))))))) = (if cd tp len (st tp len (t + 1)) = 43 then rc (J (k + 1), RT R (t + 2), if k = 0 then puL L s x else puL (puL L s x) (s + 1) (-43)) else some (1, RT R (t + 1), if k = 0 then puL L s x else puL (puL L s x) (s + 1) (-43))) := by
      rw [hval, bd_s, puX n (by omega) h5, bd_s, nm_s, J_succ t, RT_RT, hp2, bd_s, skip6 n hl h (by omega), bd_s]
      by_cases q : cd tp len (st tp len (t + 1)) = 43
      · rw [if_pos q, if_pos q]
        dsimp only
        rw [if_neg (show ¬ ((1 : Int32) = 0) by decide), J_succ k]
      · rw [if_neg q, if_neg q]
        dsimp only
        rw [if_pos rfl]
    rw [tail]
    by_cases g1 : isF (cd tp len (st tp len t)) = true
    · rw [g1, if_neg (show ¬ (b2 true = 0) by decide)]
    · have g1' : isF (cd tp len (st tp len t)) = false := by simpa using g1
      have g2 : cd tp len (st tp len t) = 256 := by rcases g with g | g; exact absurd g g1; exact g
      rw [g1', if_pos (show b2 false = 0 by decide), if_pos g2]
def sumR (n : Nat) (rc2 : St → Option (Int32 × St)) (x2l : St) : Option (Int32 × St) :=
bd (m_X12_sign n x2l 43) (fun t3 =>
(if t3.1 = 0 then
some (1, t3.2)
else
bd (m_X12_readPart n t3.2) (fun t4 =>
(if t4.1 = 0 then
some (0, t4.2)
else
bd (m_X12_emits n t4.2 9 0) (fun t5 =>
rc2 t5)))))
theorem sumR_eq (n : Nat) (v0 : St) : m_X12_readSum n v0 = bd (m_X12_readPart n v0) (fun t1 => (if t1.1 = 0 then some (0, t1.2) else lp (sumR n) n t1.2)) := by unfold m_X12_readSum; exact Eq.refl _
theorem sumLoop {n : Nat} (hn : 5000 < n) {tok R V L : St} {len N : Nat} (h : CXt tok V len N) {t s : Nat} (hst : s + 3 ≤ t) : ∀ (m mC nR k t1 p1 b1 : Nat) (V1 L1 : St) (s1 : Nat), SU V L len N t s false 2 t1 p1 V1 L1 s1 → N - t1 ≤ m → m < mC → m < nR → k + t + 1 ≤ t1 →
    Ok2 (if cd (V 8) len (st (V 8) len t1) = 43 then lp (sumB n tok) mC (J (k + 1), RT R (t1 + 1), L1) else some (1, RT R t1, L1)) (lp (sumR n) nR (PB V1 p1 b1)) (LQ R V L len N t s false 2) := by
  have hl := h.1.1
  have hN : N ≤ len := h.2.1.1
  intro m
  induction m with
  | zero =>
    intro mC nR k t1 p1 b1 V1 L1 s1 hS hm h1 h2 hk
    obtain ⟨nR, rfl⟩ : ∃ j, nR = j + 1 := ⟨nR - 1, by omega⟩
    obtain ⟨hc1, e8⟩ := hS.cx h
    have ht1 : t1 ≤ N := hS.1
    rw [lp_succ (sumR n) nR, sumR]
    rcases signT hn hc1 ht1 (hS.2.2.1.eq e8) (b := b1) (c := 43) (by omega) (by decide) (by decide) with ⟨q, q2, -⟩ | ⟨q, e⟩
    · omega
    · have q' : ¬ cd (V 8) len (st (V 8) len t1) = 43 := by rw [← e8]; exact q
      have e' : m_X12_sign n (PB V1 p1 b1) 43 = some (0, PB V1 (st (V1 8) len t1) (st (V1 8) len t1)) := e
      rw [if_neg q', e', bd_s]
      dsimp only
      rw [if_pos rfl]
      exact ok2_some (.inl ⟨t1, _, _, V1, L1, s1, rfl, rfl, hS.p (by rw [e8]; exact JC.st V len t1)⟩)
  | succ m ih =>
    intro mC nR k t1 p1 b1 V1 L1 s1 hS hm h1 h2 hk
    obtain ⟨nR, rfl⟩ : ∃ j, nR = j + 1 := ⟨nR - 1, by omega⟩
    obtain ⟨mC, rfl⟩ : ∃ j, mC = j + 1 := ⟨mC - 1, by omega⟩
    obtain ⟨hc1, e8⟩ := hS.cx h
    have ht1 : t1 ≤ N := hS.1
    have hsz : s1 + t ≤ s + t1 := hS.2.2.2.2.2.2.2.1
    rw [lp_succ (sumR n) nR, sumR]
    rcases signT hn hc1 ht1 (hS.2.2.1.eq e8) (b := b1) (c := 43) (by omega) (by decide) (by decide) with ⟨q, q2, p2, q3, e⟩ | ⟨q, e⟩
    · have q' : cd (V 8) len (st (V 8) len t1) = 43 := by rw [← e8]; exact q
      have e' : m_X12_sign n (PB V1 p1 b1) 43 = some (1, PB V1 p2 (st (V1 8) len t1)) := e
      have hLD : LD L1 V1 s1 := hS.2.2.2.2.2.1
      rw [if_pos q', e', bd_s, lp_succ (sumB n tok) mC]
      dsimp only
      rw [if_neg (show ¬ ((1 : Int32) = 0) by decide)]
      have hsB := sumB_s n (R := R) hl hc1.2.1 (t := t1 + 1) (k := k + 1) (s := s1) (by omega) (by omega) (by omega) hLD.1 (lp (sumB n tok) mC)
      rcases partT hn hc1 (t := t1 + 1) (s := s1) (by omega) (by omega) hLD q3 (b := st (V1 8) len t1) with ⟨g, g2, o, a, p3, g3, g4, g5, g6, g7⟩ | ⟨g, x, y, p3, g7⟩
      · rw [hsB.2 g g2 _ g6, g7, bd_s, if_neg (show ¬ k + 1 = 0 by omega)]
        dsimp only
        have ho8 : o ≤ 8 := by omega
        rw [if_neg (show ¬ ((1 : Int32) = 0) by decide), emR n (s := s1 + 1) (by omega) (emV_16 _ _ _ _), bd_s]
        have hleaf := SU.leaf (len := len) (N := N) (t := t1 + 1) hLD ho8 g4 (b := false) (tyS_leaf g3) g2 g5
        have hbin := SU.bin (o := 9) (b := false) (x := 2) hS hleaf (by omega) (by omega) (by omega) (by omega) (fun ts => rfl)
        have := ih mC nR (k + 1) (t1 + 1 + 1) p3 (st (V1 8) len (t1 + 1)) _ _ _ hbin (by omega) (by omega) (by omega) (by omega)
        rw [e8] at this ⊢
        exact this
      · rw [hsB.1 g, g7, bd_s]
        dsimp only
        rw [if_pos rfl]
        refine ok2_some (.inr ⟨t1 + 1, p3, _, L1, rfl, by rw [e8], by omega, hS.2.2.2.1.tr (emV_fr _ _ _ _) hS.2.2.2.2.2.2.2.2.1, hS.2.2.2.2.1.1⟩)
    · have q' : ¬ cd (V 8) len (st (V 8) len t1) = 43 := by rw [← e8]; exact q
      have e' : m_X12_sign n (PB V1 p1 b1) 43 = some (0, PB V1 (st (V1 8) len t1) (st (V1 8) len t1)) := e
      rw [if_neg q', e', bd_s]
      dsimp only
      rw [if_pos rfl]
      exact ok2_some (.inl ⟨t1, _, _, V1, L1, s1, rfl, rfl, hS.p (by rw [e8]; exact JC.st V len t1)⟩)
theorem sumT {n : Nat} (hn : 5000 < n) {tok R V L : St} {len N : Nat} (h : CXt tok V len N) {t s : Nat} (ht : t ≤ N) (hst : s + 3 ≤ t) (hL : LD L V s) {p b : Nat} (hp : JC V len p t) :
    Ok2 (m_X6_readSum n (RT R t) tok L) (m_X12_readSum n (PB V p b)) (LQ R V L len N t s false 2) := by
  have hl := h.1.1
  have hN : N ≤ len := h.2.1.1
  rw [sumB_eq, sumR_eq]
  obtain ⟨n', hn'⟩ : ∃ j, n = j + 1 := ⟨n - 1, by omega⟩
  have hlp : lp (sumB n tok) n (0, RT R t, L) = sumB n tok (lp (sumB n tok) n') (J 0, RT R t, L) := by
    conv => lhs; rw [show lp (sumB n tok) n = lp (sumB n tok) (n' + 1) from by rw [← hn']]
    rw [lp_succ]; rfl
  rw [hlp]
  have hsB := sumB_s n (R := R) hl h.2.1 (t := t) (k := 0) (s := s) ht (by omega) (by omega) hL.1 (lp (sumB n tok) n')
  rcases partT hn h (t := t) (s := s) ht (by omega) hL hp (b := b) with ⟨g, g2, o, a, p3, g3, g4, g5, g6, g7⟩ | ⟨g, x, y, p3, g7⟩
  · rw [hsB.2 g g2 _ g6, g7, bd_s, if_pos (show (0 : Nat) = 0 from rfl)]
    dsimp only
    rw [if_neg (show ¬ ((1 : Int32) = 0) by decide)]
    have hleaf := (SU.leaf (len := len) (N := N) (t := t) hL (by omega) g4 (b := false) (tyS_leaf g3) g2 g5).mono (y := 2) (by omega)
    have := sumLoop (R := R) hn h hst (N - (t + 1)) n' n 0 (t + 1) p3 (st (V 8) len t) _ _ _ hleaf (Nat.le_refl _) (by omega) (by omega) (by omega)
    exact this
  · rw [hsB.1 g, g7, bd_s]
    dsimp only
    rw [if_pos rfl]
    exact ok2_some (.inr ⟨t, p3, _, L, rfl, rfl, ht, emV_fr _ _ _ _, Fr.rfl _ _⟩)
end PLAWR2
