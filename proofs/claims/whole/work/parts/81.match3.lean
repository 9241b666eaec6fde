section PMATCH3
theorem lp_succ {σ ρ : Type} (body : (σ → Option ρ) → σ → Option ρ) (n : Nat) (x : σ) : lp body (n + 1) x = body (lp body n) x := rfl
theorem firstX {n : Nat} (hn : 5000 < n) {w : Nat → Int32} (hI : WInv w) {T : St} (hT : ∀ h, h < 2 * nP w → T 0 h = loadS w h) {c s : Nat} (h : EV2 (nP w) (c + 1) s) (hc : c ≤ 7) : m_X7_firstPartner n T (J s) (J (lowN s)) = some (J (lowN s + 1 + ptN w c s)) := by
  have hne := h.ne
  obtain ⟨l1, l2⟩ := low_tb h.1 hne
  obtain ⟨p1, p2⟩ := pt_ex hI h (by omega)
  have hP5 := hI.p5
  have hcl := clr_le s (lowN s)
  have hs := h.1
  have hM := Mf_le hI (c + 1) s h
  have hrm : ∀ i, i < 10 - (lowN s + 1) → s.testBit (lowN s + 1 + i) = true → EV2 (nP w) c (clr (clr s (lowN s)) (lowN s + 1 + i)) := fun i hi q => (h.rm hi q).1
  have hh := h.2.2
  have hpt : ∀ i, ptP w c s i = (s.testBit (lowN s + 1 + i) && decide (dfN w (lowN s) (lowN s + 1 + i) + Mf w c (clr (clr s (lowN s)) (lowN s + 1 + i)) = Mf w (c + 1) s)) := fun i => rfl
  have hptN : ptN w c s = fstN (ptP w c s) (10 - (lowN s + 1)) := rfl
  have hls : G_X7_leastSum n 64 0 T (J s) 0 = some (J (Mf w (c + 1) s)) := leastX hn hI hT (c + 1) s 64 0 0 h (by omega) (by omega)
  unfold m_X7_firstPartner m_X7_leastSum
  rw [hls, bd_s, nm_s, J_succ (lowN s), hptN]
  rw [hptN] at p1 p2
  generalize lowN s = a at l1 l2 hcl hrm hpt p1 p2 ⊢
  obtain ⟨r, e, hr⟩ := ok_fst (body := (fun (rc3 : Int32 → Option (Int32)) (x3l : Int32) =>
(if 10 ≤ x3l then
some (-1)
else
jn (fun (t4 : Unit) =>
rc3 (x3l + 1)) (fun (K4 : Unit → Option (Int32)) =>
(if ((x_shr (J s) x3l) &&& 1) = 0 then
K4 ()
else
bd (G_X7_leastSum n 64 0 T ((J s &&& ((x_shl 1 (J a)) ^^^ (-1))) &&& ((x_shl 1 x3l) ^^^ (-1))) 0) (fun t5 =>
(if ix (J a) 10 then (if ix x3l 10 then (if ((x_abs ((T 0 (J a).toNatClampNeg) - (T 0 (x3l).toNatClampNeg))) + t5) = J (Mf w (c + 1) s) then
some x3l
else
K4 ()) else none) else none)))))) ) (Q := fun r => r = J (a + 1 + fstN (ptP w c s) (10 - (a + 1)))) (fun i (_ : Unit) => J (a + 1 + i)) (ptP w c s) (10 - (a + 1)) (fun _ _ => True) (fun rc i _ hi _ _ ih hfd => by
      have e : ¬ (10 : Int32) ≤ J (a + 1 + i) := by rw [show (10 : Int32) = J 10 from rfl, J_le (by omega) (by omega)]; omega
      simp (disch := omega) only [e, ↓reduceIte, shr_0, tb_J, jn_s, J_succ (a + 1 + i)]
      have hp := hpt i
      by_cases q : s.testBit (a + 1 + i) = true
      · have r1 := hrm i hi q
        have m1 := Mf_le hI c _ r1
        have ih2 : G_X7_leastSum n 64 0 T (J (clr (clr s a) (a + 1 + i))) 0 = some (J (Mf w c (clr (clr s a) (a + 1 + i)))) := leastX hn hI hT c _ 64 0 0 r1 (by omega) (by omega)
        have ha2 := hh _ l1 l2
        have hb2 := hh _ (show a + 1 + i < 10 by omega) q
        have d1 := dfN_le hI ha2 hb2
        have g1 : T 0 a = J (lgN w a) := (hT _ ha2).trans (lg_J hI ha2).1
        have g2 : T 0 (a + 1 + i) = J (lgN w (a + 1 + i)) := (hT _ hb2).trans (lg_J hI hb2).1
        have eD : x_abs (J (lgN w a) - J (lgN w (a + 1 + i))) = J (dfN w a (a + 1 + i)) := abs_J (lg_J hI ha2).2 (lg_J hI hb2).2
        rw [if_neg (by rw [q]; simp), sub_J hs l1 (by omega), ih2, bd_s, if_pos (J_ix (by omega) (by omega)), if_pos (J_ix (by omega) (by omega)), J_nat (k := a) (by omega), J_nat (k := a + 1 + i) (by omega), g1, g2, eD, J_add]
        rw [q, Bool.true_and] at hp
        by_cases q2 : dfN w a (a + 1 + i) + Mf w c (clr (clr s a) (a + 1 + i)) = Mf w (c + 1) s
        · rw [decide_eq_true q2] at hp
          rw [q2, if_pos rfl, hfd hp]
          exact ok_some rfl
        · rw [decide_eq_false q2] at hp
          rw [if_neg (by rw [J_inj (by omega) (by omega)]; exact q2)]
          exact ih hp () trivial
      · have q' : s.testBit (a + 1 + i) = false := by simpa using q
        rw [q', Bool.false_and] at hp
        rw [if_pos q']
        exact ih hp () trivial) (fun rc _ _ hN => by exfalso; omega) (n := n) (by omega) () (x := J (a + 1)) rfl trivial
  rw [← hr]; exact e
theorem partR {n : Nat} (hn : 5000 < n) {u : St} (hI : WInv (u 1)) {c s S : Nat} (h : EV2 (nP (u 1)) (c + 1) s) (hc : c ≤ 7) (hT : TB (u 1) S (u 18) (S + 1)) (hS : S < 1024) (hsS : s ≤ S) (hsub : (J s &&& J S) = J s) : m_X12_partnerIn n u (J s) = some (J (lowN s + 1 + ptN (u 1) c s)) := by
  have hne := h.ne
  obtain ⟨l1, l2⟩ := low_tb h.1 hne
  obtain ⟨p1, p2⟩ := pt_ex hI h (by omega)
  have hP5 := hI.p5
  have hcl := clr_le s (lowN s)
  have hs := h.1
  have hM := Mf_le hI (c + 1) s h
  have hrm : ∀ i, i < 10 - (lowN s + 1) → s.testBit (lowN s + 1 + i) = true → EV2 (nP (u 1)) c (clr (clr s (lowN s)) (lowN s + 1 + i)) ∧ clr (clr s (lowN s)) (lowN s + 1 + i) < s := fun i hi q => h.rm hi q
  have hh := h.2.2
  have hpt : ∀ i, ptP (u 1) c s i = (s.testBit (lowN s + 1 + i) && decide (dfN (u 1) (lowN s) (lowN s + 1 + i) + Mf (u 1) c (clr (clr s (lowN s)) (lowN s + 1 + i)) = Mf (u 1) (c + 1) s)) := fun i => rfl
  have hptN : ptN (u 1) c s = fstN (ptP (u 1) c s) (10 - (lowN s + 1)) := rfl
  have hntz := ntz_J n h.1 hne
  have hts := hT (c + 1) s (by omega) h hsub
  unfold m_X12_partnerIn
  rw [hntz, bd_s, nm_s, J_succ (lowN s), hptN]
  rw [hptN] at p1 p2
  generalize lowN s = a at l1 l2 hcl hrm hpt p1 p2 ⊢
  obtain ⟨r, e, hr⟩ := ok_fst (body := (fun (rc3 : Int32 → Option (Int32)) (x3l : Int32) =>
bd (m_X12_holds n (J s) x3l) (fun t4 =>
jn (fun (t5 : Unit) =>
rc3 (x3l + 1)) (fun (K5 : Unit → Option (Int32)) =>
(if t4 = 0 then
K5 ()
else
bd (m_X12_differBy n u (J s) (J a) x3l) (fun t6 =>
(if ix (J s) 1024 then (if t6 = (u 18 (J s).toNatClampNeg) then
some x3l
else
K5 ()) else none)))))) ) (Q := fun r => r = J (a + 1 + fstN (ptP (u 1) c s) (10 - (a + 1)))) (fun i (_ : Unit) => J (a + 1 + i)) (ptP (u 1) c s) (10 - (a + 1)) (fun _ _ => True) (fun rc i _ hi _ _ ih hfd => by
      simp (disch := omega) only [holds_s, bd_s, tb_J, jn_s, J_succ (a + 1 + i)]
      have hp := hpt i
      by_cases q : s.testBit (a + 1 + i) = true
      · obtain ⟨r1, r2⟩ := hrm i hi q
        have m1 := Mf_le hI c _ r1
        have ha2 := hh _ l1 l2
        have hb2 := hh _ (show a + 1 + i < 10 by omega) q
        have d1 := dfN_le hI ha2 hb2
        have hsb := sub_clr (s := clr s a) (S := S) (a := a + 1 + i) (by omega) hS (by omega) (sub_clr hs hS l1 hsub)
        have ht := hT c _ (by omega) r1 hsb
        rw [show b2i (s.testBit (a + 1 + i) = true) = 1 from if_pos q, if_neg (by decide), diffR hn hI hs ha2 hb2, bd_s, if_pos (J_ix hs (by omega)), J_nat (by omega), hts, ht, J_add]
        rw [q, Bool.true_and] at hp
        by_cases q2 : dfN (u 1) a (a + 1 + i) + Mf (u 1) c (clr (clr s a) (a + 1 + i)) = Mf (u 1) (c + 1) s
        · rw [decide_eq_true q2] at hp
          rw [q2, if_pos rfl, hfd hp]
          exact ok_some rfl
        · rw [decide_eq_false q2] at hp
          rw [if_neg (by rw [J_inj (by omega) (by omega)]; exact q2)]
          exact ih hp () trivial
      · have q' : s.testBit (a + 1 + i) = false := by simpa using q
        rw [q', Bool.false_and] at hp
        rw [show b2i (s.testBit (a + 1 + i) = true) = 0 from if_neg q, if_pos rfl]
        exact ih hp () trivial) (fun rc _ _ hN => by exfalso; omega) (n := n) (by omega) () (x := J (a + 1)) rfl trivial
  rw [← hr]; exact e
def paS (w : Nat → Int32) : Nat → Nat → Int32 → Int32
  | 0, _, _ => -1
  | c + 1, s, h => if J (lowN s) = h then J (lowN s + 1 + ptN w c s) else if J (lowN s + 1 + ptN w c s) = h then J (lowN s) else paS w c (clr (clr s (lowN s)) (lowN s + 1 + ptN w c s)) h
theorem paS_succ (w : Nat → Int32) (c s : Nat) (h : Int32) : paS w (c + 1) s h = if J (lowN s) = h then J (lowN s + 1 + ptN w c s) else if J (lowN s + 1 + ptN w c s) = h then J (lowN s) else paS w c (clr (clr s (lowN s)) (lowN s + 1 + ptN w c s)) h := by rw [paS]
theorem and3 {s a b : Nat} (hs : s < 1024) (ha : a < 10) (hb : b < 10) : (J s &&& ((x_shl 1 (J a) ^^^ (-1)) &&& (x_shl 1 (J b) ^^^ (-1)))) = J (clr (clr s a) b) := by
  rw [← sub_J hs ha hb, Int32.and_assoc]
theorem partnerX {n : Nat} (hn : 5000 < n) {w : Nat → Int32} (hI : WInv w) {T : St} (hT : ∀ h, h < 2 * nP w → T 0 h = loadS w h) (h : Int32) : ∀ c s pr m, EV2 (nP w) c s → pr + c ≤ 8 → c < m →
    lp (fun (rc2 : Int32 × Int32 → Option (Int32)) (x2l : Int32 × Int32) =>
(if 8 ≤ x2l.2 then
some (-1)
else
(if x2l.1 = 0 then
some (-1)
else
bd (m_X7_lowest n x2l.1) (fun t3 =>
bd (m_X7_firstPartner n T x2l.1 t3) (fun t4 =>
(if t4 = (-1) then
some (-1)
else
(if t3 = h then
some t4
else
(if t4 = h then
some t3
else
nm (x2l.1 &&& (((x_shl 1 t3) ^^^ (-1)) &&& ((x_shl 1 t4) ^^^ (-1)))) (fun x3_5 =>
rc2 (x3_5, (x2l.2 + 1))))))))))) m (J s, J pr) = some (paS w c s h)
  | 0, s, pr, m, hE, hpr, hm => by
    obtain ⟨m, rfl⟩ : ∃ j, m = j + 1 := ⟨m - 1, by omega⟩
    have h0 := pop_0 hE.1 hE.2.1
    rw [lp_succ]
    dsimp only
    rw [h0]
    unfold paS
    by_cases q : (8 : Int32) ≤ J pr
    · rw [if_pos q]
    · rw [if_neg q]; rfl
  | c + 1, s, pr, m, hE, hpr, hm => by
    obtain ⟨m, rfl⟩ : ∃ j, m = j + 1 := ⟨m - 1, by omega⟩
    have hne := hE.ne
    obtain ⟨l1, l2⟩ := low_tb hE.1 hne
    obtain ⟨p1, p2⟩ := pt_ex hI hE (by omega)
    have hb : s.testBit (lowN s + 1 + ptN w c s) = true := by unfold ptP at p2; rw [Bool.and_eq_true] at p2; exact p2.1
    have ih := partnerX hn hI hT h c _ (pr + 1) m (hE.rm p1 hb).1 (by omega) (by omega)
    have hf := firstX hn hI hT hE (by omega)
    have hlx := lowX hn hE.1
    rw [if_neg hne] at hlx
    have hs := hE.1
    rw [lp_succ, paS_succ]
    dsimp only
    rw [if_neg (by rw [show (8 : Int32) = J 8 from rfl, J_le (by omega) (by omega)]; omega), if_neg (by rw [show (0 : Int32) = J 0 from rfl, J_inj (by omega) (by omega)]; exact hne), hlx, bd_s, hf, bd_s, nm_s]
    generalize lowN s = a at l1 l2 p1 ih ⊢
    generalize ptN w c s = i at p1 ih ⊢
    rw [if_neg (J_ne_neg (by omega)), and3 hs l1 (by omega), J_succ pr]
    by_cases q1 : J a = h
    · rw [if_pos q1, if_pos q1]
    · rw [if_neg q1, if_neg q1]
      by_cases q2 : J (a + 1 + i) = h
      · rw [if_pos q2, if_pos q2]
      · rw [if_neg q2, if_neg q2]; exact ih
theorem partnerR {n : Nat} (hn : 5000 < n) {u : St} (hI : WInv (u 1)) {S : Nat} (hT : TB (u 1) S (u 18) (S + 1)) (hS : S < 1024) (h : Int32) : ∀ c s m, EV2 (nP (u 1)) c s → c ≤ 8 → c < m → s ≤ S → (J s &&& J S) = J s →
    lp (fun (rc8 : Int32 → Option (Int32 × St)) (x8l : Int32) =>
(if x8l = 0 then
some ((-1), u)
else
bd (m_X12_leastOf n x8l) (fun t9 =>
bd (m_X12_partnerIn n u x8l) (fun t10 =>
(if h = t9 then
some (t10, u)
else
(if h = t10 then
some (t9, u)
else
nm (x8l &&& (((x_shl 1 t9) ^^^ (-1)) &&& ((x_shl 1 t10) ^^^ (-1)))) (fun x3_11 =>
rc8 x3_11))))))) m (J s) = some (paS (u 1) c s h, u)
  | 0, s, m, hE, hc, hm, hsS, hsub => by
    obtain ⟨m, rfl⟩ : ∃ j, m = j + 1 := ⟨m - 1, by omega⟩
    have h0 := pop_0 hE.1 hE.2.1
    rw [lp_succ]
    rw [h0]
    unfold paS
    rfl
  | c + 1, s, m, hE, hc, hm, hsS, hsub => by
    obtain ⟨m, rfl⟩ : ∃ j, m = j + 1 := ⟨m - 1, by omega⟩
    have hne := hE.ne
    obtain ⟨l1, l2⟩ := low_tb hE.1 hne
    obtain ⟨p1, p2⟩ := pt_ex hI hE (by omega)
    have hb : s.testBit (lowN s + 1 + ptN (u 1) c s) = true := by unfold ptP at p2; rw [Bool.and_eq_true] at p2; exact p2.1
    have hrm := hE.rm p1 hb
    have hs := hE.1
    have hcl := clr_le s (lowN s)
    have hsb := sub_clr (s := clr s (lowN s)) (S := S) (a := lowN s + 1 + ptN (u 1) c s) (by omega) hS (by omega) (sub_clr hs hS l1 hsub)
    have ih := partnerR hn hI hT hS h c _ m hrm.1 (by omega) (by omega) (by omega) hsb
    have hf := partR hn hI hE (by omega) hT hS hsS hsub
    have hlx := ntz_J n hE.1 hne
    rw [lp_succ, paS_succ]
    rw [if_neg (by rw [show (0 : Int32) = J 0 from rfl, J_inj (by omega) (by omega)]; exact hne), hlx, bd_s, hf, bd_s, nm_s]
    generalize lowN s = a at l1 l2 p1 ih ⊢
    generalize ptN (u 1) c s = i at p1 ih ⊢
    rw [and3 hs l1 (by omega)]
    by_cases q1 : J a = h
    · rw [if_pos q1, if_pos q1.symm]
    · rw [if_neg q1, if_neg (fun e => q1 e.symm)]
      by_cases q2 : J (a + 1 + i) = h
      · rw [if_pos q2, if_pos q2.symm]
      · rw [if_neg q2, if_neg (fun e => q2 e.symm)]; exact ih
-- the set of houses
theorem mask_J {P : Nat} (hP : P ≤ 5) (x : Int32) : ∃ s, (x &&& (x_shl 1 (J (2 * P)) - 1)) = J s ∧ s < 1024 ∧ ∀ k, k < 10 → s.testBit k = true → k < 2 * P := by
  have hm : ∀ P : Nat, P ≤ 5 → ∀ k : Nat, k < 32 → (tb (x_shl 1 (J (2 * P)) - 1) k = decide (k < 2 * P)) := by decide +kernel
  have hl : low (x &&& (x_shl 1 (J (2 * P)) - 1)) (2 * P) := by
    intro k hk
    by_cases h : k < 32
    · rw [tb_and, hm P hP k h, decide_eq_false (by omega), Bool.and_false]
    · exact tb_hi _ (by omega)
  obtain ⟨s, e, hs⟩ := low_J (low_mono hl (show 2 * P ≤ 10 by omega)) (by omega)
  refine ⟨s, e, hs, fun k hk hb => ?_⟩
  have := hl k
  rw [e, tb_J (by omega)] at this
  by_cases q : k < 2 * P
  · exact q
  · rw [this (by omega)] at hb; simp at hb
end PMATCH3
