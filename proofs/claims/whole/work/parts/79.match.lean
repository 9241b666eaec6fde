section PMATCH
def clr (s a : Nat) : Nat := if s.testBit a then s - 2 ^ a else s
def lowN (s : Nat) : Nat := fstN (fun k => s.testBit k) 10
theorem clr_J {s a : Nat} (hs : s < 1024) (ha : a < 10) : (J s &&& (x_shl 1 (J a) ^^^ (-1))) = J (clr s a) := by
  have : ∀ a : Nat, a < 10 → ∀ s : Nat, s < 1024 → (J s &&& (x_shl 1 (J a) ^^^ (-1))) = J (clr s a) := by decide +kernel
  exact this a ha s hs
theorem clr_lt {s a : Nat} (hs : s < 1024) (ha : a < 10) (h : s.testBit a = true) : clr s a < s ∧ popN (clr s a) 10 + 1 = popN s 10 := by
  have : ∀ a : Nat, a < 10 → ∀ s : Nat, s < 1024 → s.testBit a = true → clr s a < s ∧ popN (clr s a) 10 + 1 = popN s 10 := by decide +kernel
  exact this a ha s hs h
theorem clr_le (s a : Nat) : clr s a ≤ s := by
  unfold clr; split
  · exact Nat.sub_le _ _
  · exact Nat.le_refl _
theorem clr_tb {s a : Nat} (hs : s < 1024) (ha : a < 10) {k : Nat} (hk : k < 10) : (clr s a).testBit k = (s.testBit k && decide (k ≠ a)) := by
  have := congrArg (fun z => tb z k) (clr_J hs ha)
  simp only [tb_and, tb_xor, tb_m1 (show k < 32 by omega), tb_shl (show a < 32 by omega) (show k < 32 by omega), tb_J (show k < 32 by omega)] at this
  rw [← this]
  by_cases e : k = a <;> simp [e]
theorem pop_0 {s : Nat} (hs : s < 1024) (h : popN s 10 = 0) : s = 0 := by
  have : ∀ s : Nat, s < 1024 → popN s 10 = 0 → s = 0 := by decide +kernel
  exact this s hs h
theorem low_tb {s : Nat} (hs : s < 1024) (h : s ≠ 0) : lowN s < 10 ∧ s.testBit (lowN s) = true := by
  have : ∀ s : Nat, s < 1024 → s ≠ 0 → lowN s < 10 ∧ s.testBit (lowN s) = true := by decide +kernel
  exact this s hs h
theorem low_min {s : Nat} (hs : s < 1024) {k : Nat} (hk : k < lowN s) : s.testBit k = false := by
  have : ∀ s : Nat, s < 1024 → ∀ k : Nat, k < lowN s → s.testBit k = false := by decide +kernel
  exact this s hs k hk
theorem ntz_J (n : Nat) {s : Nat} (hs : s < 1024) (h : s ≠ 0) : m_X12_leastOf n (J s) = some (J (lowN s)) := by
  have h0 : ∀ s : Nat, s < 1024 → s ≠ 0 → m_J6_numberOfTrailingZeros_0f7a4 0 (J s) = some (J (lowN s)) := by decide +kernel
  have e : m_J6_numberOfTrailingZeros_0f7a4 n (J s) = m_J6_numberOfTrailingZeros_0f7a4 0 (J s) := by unfold m_J6_numberOfTrailingZeros_0f7a4; exact Eq.refl _
  unfold m_X12_leastOf
  rw [e, h0 s hs h, bd_s]
theorem lowX {n : Nat} (hn : 5000 < n) {s : Nat} (hs : s < 1024) : m_X7_lowest n (J s) = some (if s = 0 then -1 else J (lowN s)) := by
  unfold m_X7_lowest
  obtain ⟨r, e, h⟩ := ok_fst (body := (fun (rc1 : Int32 → Option (Int32)) (x1l : Int32) =>
(if 10 ≤ x1l then
some (-1)
else
(if ((x_shr (J s) x1l) &&& 1) = 0 then
rc1 (x1l + 1)
else
some x1l)))) (Q := fun r => r = if s = 0 then -1 else J (lowN s)) (fun k (_ : Unit) => J k) (fun k => s.testBit k) 10 (fun _ _ => True) (fun rc k _ hk _ _ ih hfd => by
      have e : ¬ (10 : Int32) ≤ J k := by rw [show (10 : Int32) = J 10 from rfl, J_le (by omega) (by omega)]; omega
      simp (disch := omega) only [e, ↓reduceIte, shr_0, tb_J, J_succ]
      by_cases q : s.testBit k = true
      · rw [if_neg (by rw [q]; simp)]
        refine ok_some ?_
        have hs0 : s ≠ 0 := fun h => by rw [h] at q; simp at q
        rw [if_neg hs0]
        have := hfd q
        unfold lowN; rw [this]
      · rw [if_pos (by simpa using q)]
        exact ih (by simpa using q) () trivial) (fun rc _ _ hN => by
      have e : (10 : Int32) ≤ J 10 := by decide
      simp only [e, ↓reduceIte]
      refine ok_some ?_
      by_cases h : s = 0
      · rw [if_pos h]
      · exfalso
        have := (low_tb hs h).1
        unfold lowN at this; omega) (n := n) (by omega) () rfl trivial
  rw [← h]; exact e
def adf (x y : Nat) : Nat := if y ≤ x then x - y else y - x
theorem abs_J {x y : Nat} (hx : x ≤ 744) (hy : y ≤ 744) : x_abs (J x - J y) = J (adf x y) := by
  unfold x_abs adf
  by_cases h : y ≤ x
  · rw [if_pos h, J_sub h, if_pos (by have := J_nn (k := x - y) (by omega); grind)]
  · have e : J x - J y = 0 - J (y - x) := by rw [← J_sub (show x ≤ y by omega)]; grind
    have en : (J x - J y).toInt = (x : Int) - y := by rw [Int32.toInt_sub, J_toInt (by omega), J_toInt (by omega), Int.bmod_eq_of_le (by omega) (by omega)]
    rw [if_neg h, if_neg (by rw [Int32.le_iff_toInt_le, en, show (0 : Int32).toInt = 0 from by decide]; omega), e]; grind
-- the least sum
def lgN (w : Nat → Int32) (h : Nat) : Nat := (loadS w h).toNatClampNeg
theorem lg_J {w : Nat → Int32} (hI : WInv w) {h : Nat} (hh : h < 2 * nP w) : loadS w h = J (lgN w h) ∧ lgN w h ≤ 744 := by
  obtain ⟨s, hs, e⟩ := load_b hI hh
  unfold lgN
  rw [e, J_nat (by omega)]; exact ⟨rfl, hs⟩
def dfN (w : Nat → Int32) (a b : Nat) : Nat := adf (lgN w a) (lgN w b)
theorem dfN_le {w : Nat → Int32} (hI : WInv w) {a b : Nat} (ha : a < 2 * nP w) (hb : b < 2 * nP w) : dfN w a b ≤ 744 := by
  have := (lg_J hI ha).2
  have := (lg_J hI hb).2
  unfold dfN adf; split <;> omega
def Mf (w : Nat → Int32) : Nat → Nat → Nat
  | 0, _ => 0
  | c + 1, s => foldN (fun i acc => if s.testBit (lowN s + 1 + i) then min acc (dfN w (lowN s) (lowN s + 1 + i) + Mf w c (clr (clr s (lowN s)) (lowN s + 1 + i))) else acc) 1000000 (10 - (lowN s + 1))
def mnK (w : Nat → Int32) (c s K : Nat) : Nat := foldN (fun i acc => if s.testBit (lowN s + 1 + i) then min acc (dfN w (lowN s) (lowN s + 1 + i) + Mf w c (clr (clr s (lowN s)) (lowN s + 1 + i))) else acc) 1000000 K
theorem Mf_succ (w : Nat → Int32) (c s : Nat) : Mf w (c + 1) s = mnK w c s (10 - (lowN s + 1)) := by unfold Mf mnK; exact Eq.refl _
theorem mnK_succ (w : Nat → Int32) (c s K : Nat) : mnK w c s (K + 1) = if s.testBit (lowN s + 1 + K) then min (mnK w c s K) (dfN w (lowN s) (lowN s + 1 + K) + Mf w c (clr (clr s (lowN s)) (lowN s + 1 + K))) else mnK w c s K := by unfold mnK; rw [foldN_succ]
theorem mnK_0 (w : Nat → Int32) (c s : Nat) : mnK w c s 0 = 1000000 := by unfold mnK foldN; exact Eq.refl _
theorem mnK_le (w : Nat → Int32) (c s : Nat) : ∀ K, mnK w c s K ≤ 1000000
  | 0 => by rw [mnK_0]; omega
  | K + 1 => by
    have := mnK_le w c s K
    rw [mnK_succ]; split <;> omega
theorem mnK_lb (w : Nat → Int32) (c s : Nat) : ∀ K i, i < K → s.testBit (lowN s + 1 + i) = true → mnK w c s K ≤ dfN w (lowN s) (lowN s + 1 + i) + Mf w c (clr (clr s (lowN s)) (lowN s + 1 + i))
  | 0, i, h, _ => absurd h (by omega)
  | K + 1, i, h, hb => by
    rw [mnK_succ]
    by_cases e : i = K
    · subst e; rw [if_pos hb]; omega
    · have := mnK_lb w c s K i (by omega) hb
      split <;> omega
theorem mnK_at (w : Nat → Int32) (c s : Nat) : ∀ K, mnK w c s K = 1000000 ∨ ∃ i, i < K ∧ s.testBit (lowN s + 1 + i) = true ∧ mnK w c s K = dfN w (lowN s) (lowN s + 1 + i) + Mf w c (clr (clr s (lowN s)) (lowN s + 1 + i))
  | 0 => .inl (mnK_0 w c s)
  | K + 1 => by
    rw [mnK_succ]
    have ih := mnK_at w c s K
    by_cases q : s.testBit (lowN s + 1 + K) = true
    · rw [if_pos q]
      by_cases q2 : mnK w c s K ≤ dfN w (lowN s) (lowN s + 1 + K) + Mf w c (clr (clr s (lowN s)) (lowN s + 1 + K))
      · rw [Nat.min_eq_left q2]
        rcases ih with h | ⟨i, h1, h2⟩
        · exact .inl h
        · exact .inr ⟨i, by omega, h2⟩
      · rw [Nat.min_eq_right (by omega)]
        exact .inr ⟨K, by omega, q, rfl⟩
    · rw [if_neg q]
      rcases ih with h | ⟨i, h1, h2⟩
      · exact .inl h
      · exact .inr ⟨i, by omega, h2⟩
/-- a set of an even number of houses -/
def EV2 (P c s : Nat) : Prop := s < 1024 ∧ popN s 10 = 2 * c ∧ ∀ k, k < 10 → s.testBit k = true → k < 2 * P
theorem EV2.ne {P c s : Nat} (h : EV2 P (c + 1) s) : s ≠ 0 := by
  intro e
  have h2 := h.2.1
  rw [e, show popN 0 10 = 0 from by decide] at h2
  omega
theorem EV2.rm {P c s : Nat} (h : EV2 P (c + 1) s) {i : Nat} (hi : i < 10 - (lowN s + 1)) (hb : s.testBit (lowN s + 1 + i) = true) : EV2 P c (clr (clr s (lowN s)) (lowN s + 1 + i)) ∧ clr (clr s (lowN s)) (lowN s + 1 + i) < s := by
  obtain ⟨h1, h2, h3⟩ := h
  obtain ⟨l1, l2⟩ := low_tb h1 (EV2.ne ⟨h1, h2, h3⟩)
  obtain ⟨c1, c2⟩ := clr_lt h1 l1 l2
  have hb' : (clr s (lowN s)).testBit (lowN s + 1 + i) = true := by rw [clr_tb h1 l1 (by omega), hb]; simp; omega
  obtain ⟨d1, d2⟩ := clr_lt (s := clr s (lowN s)) (a := lowN s + 1 + i) (by omega) (by omega) hb'
  refine ⟨⟨by omega, by omega, fun k hk hkb => ?_⟩, by omega⟩
  rw [clr_tb (by omega) (by omega) hk, clr_tb h1 l1 hk] at hkb
  simp only [Bool.and_eq_true] at hkb
  exact h3 k hk hkb.1.1
theorem EV2.some {P c s : Nat} (h : EV2 P (c + 1) s) : ∃ i, i < 10 - (lowN s + 1) ∧ s.testBit (lowN s + 1 + i) = true := by
  obtain ⟨h1, h2, h3⟩ := h
  obtain ⟨l1, l2⟩ := low_tb h1 (EV2.ne ⟨h1, h2, h3⟩)
  obtain ⟨c1, c2⟩ := clr_lt h1 l1 l2
  have hne : clr s (lowN s) ≠ 0 := by
    intro e
    rw [e, show popN 0 10 = 0 from by decide] at c2
    omega
  obtain ⟨m1, m2⟩ := low_tb (s := clr s (lowN s)) (by omega) hne
  rw [clr_tb h1 l1 m1] at m2
  simp only [Bool.and_eq_true, decide_eq_true_eq] at m2
  have hge : ¬ lowN (clr s (lowN s)) < lowN s := fun q => by have := low_min h1 q; rw [this] at m2; simp at m2
  exact ⟨lowN (clr s (lowN s)) - (lowN s + 1), by omega, by rw [show lowN s + 1 + (lowN (clr s (lowN s)) - (lowN s + 1)) = lowN (clr s (lowN s)) from by omega]; exact m2.1⟩
theorem Mf_le {w : Nat → Int32} (hI : WInv w) : ∀ c s, EV2 (nP w) c s → Mf w c s ≤ 744 * c
  | 0, s, _ => by unfold Mf; omega
  | c + 1, s, h => by
    obtain ⟨i, hi, hb⟩ := h.some
    obtain ⟨l1, l2⟩ := low_tb h.1 h.ne
    rw [Mf_succ]
    have a1 := mnK_lb w c s _ i hi hb
    have a2 := Mf_le hI c _ (h.rm hi hb).1
    have a3 := dfN_le hI (h.2.2 _ l1 l2) (h.2.2 _ (by omega) hb)
    omega
theorem sub_J {s a b : Nat} (hs : s < 1024) (ha : a < 10) (hb : b < 10) : ((J s &&& (x_shl 1 (J a) ^^^ (-1))) &&& (x_shl 1 (J b) ^^^ (-1))) = J (clr (clr s a) b) := by
  have := clr_le s a
  rw [clr_J hs ha, clr_J (by omega) hb]
theorem leastX {n : Nat} (hn : 5000 < n) {w : Nat → Int32} (hI : WInv w) {T : St} (hT : ∀ h, h < 2 * nP w → T 0 h = loadS w h) : ∀ c s d k deep, EV2 (nP w) c s → c < d → deep + c ≤ 8 → G_X7_leastSum n d k T (J s) (J deep) = some (J (Mf w c s))
  | 0, s, d, k, deep, h, hd, hdp => by
    obtain ⟨d, rfl⟩ : ∃ j, d = j + 1 := ⟨d - 1, by omega⟩
    have h0 := pop_0 h.1 h.2.1
    unfold G_X7_leastSum
    rw [lowX hn h.1, bd_s, if_pos h0, if_pos rfl]; unfold Mf; rfl
  | c + 1, s, d, k, deep, h, hd, hdp => by
    obtain ⟨d, rfl⟩ : ∃ j, d = j + 1 := ⟨d - 1, by omega⟩
    have hne := h.ne
    obtain ⟨l1, l2⟩ := low_tb h.1 hne
    have hP5 := hI.p5
    have hcl := clr_le s (lowN s)
    have hs := h.1
    have hM := Mf_le hI (c + 1) s h
    have hk := mnK_le w c s
    have hrm : ∀ i, i < 10 - (lowN s + 1) → s.testBit (lowN s + 1 + i) = true → EV2 (nP w) c (clr (clr s (lowN s)) (lowN s + 1 + i)) := fun i hi q => (h.rm hi q).1
    have hsu := mnK_succ w c s
    have hh := h.2.2
    have hcb : ∀ i, i < 10 - (lowN s + 1) → (clr s (lowN s)).testBit (lowN s + 1 + i) = s.testBit (lowN s + 1 + i) := fun i hi => by rw [clr_tb h.1 l1 (by omega), decide_eq_true (show lowN s + 1 + i ≠ lowN s by omega), Bool.and_true]
    have hlow := lowX hn h.1
    rw [Mf_succ] at hM ⊢
    have hcj := clr_J h.1 l1
    generalize lowN s = a at l1 l2 hcl hM hrm hsu hcb hlow hcj ⊢
    unfold G_X7_leastSum
    rw [hlow, bd_s, if_neg hne, if_neg (J_ne_neg (by omega)), if_pos (by rw [show (8 : Int32) = J 8 from rfl, J_le (by omega) (by omega)]; omega), nm_s, nm_s, hcj, J_succ a, J_succ deep]
    refine (lp_seq (fun i => ((if mnK w c s i = 1000000 then -1 else J (mnK w c s i)), J (a + 1 + i))) (10 - (a + 1)) (r := J (mnK w c s (10 - (a + 1)))) (fun rc i hi => ?_) (fun rc => ?_) (by omega) ?_)
    · have e : ¬ (10 : Int32) ≤ J (a + 1 + i) := by rw [show (10 : Int32) = J 10 from rfl, J_le (by omega) (by omega)]; omega
      simp (disch := omega) only [e, ↓reduceIte, shr_0, tb_J, hcb i hi, J_succ (a + 1 + i)]
      rw [show a + 1 + (i + 1) = a + 1 + i + 1 from rfl, hsu]
      by_cases q : s.testBit (a + 1 + i) = true
      · have r1 := hrm i hi q
        have ih := leastX hn hI hT c _ d 0 (deep + 1) r1 (by omega) (by omega)
        have m1 := Mf_le hI c _ r1
        have ha2 := hh _ l1 l2
        have hb2 := hh _ (show a + 1 + i < 10 by omega) q
        have d1 := dfN_le hI ha2 hb2
        have c5 : c ≤ 8 := by omega
        have g1 := hT _ ha2
        have g2 := hT _ hb2
        rw [(lg_J hI ha2).1] at g1
        rw [(lg_J hI hb2).1] at g2
        have eD : x_abs (J (lgN w a) - J (lgN w (a + 1 + i))) = J (dfN w a (a + 1 + i)) := abs_J (lg_J hI ha2).2 (lg_J hI hb2).2
        have hk1 := hk i
        rw [if_neg (by rw [q]; simp), if_pos q, clr_J (by omega) (by omega), ih, bd_s, if_pos (J_ix (by omega) (by omega)), if_pos (J_ix (by omega) (by omega)), nm_s, J_nat (by omega), J_nat (by omega), g1, g2, eD, J_add]
        generalize dfN w a (a + 1 + i) = D at d1 ⊢
        generalize Mf w c (clr (clr s a) (a + 1 + i)) = M at m1 ⊢
        generalize mnK w c s i = m0 at hk1 ⊢
        by_cases q2 : m0 = 1000000
        · rw [if_pos q2, if_pos rfl, bd_s, bd_s, Nat.min_eq_right (by omega), if_neg (by omega)]
        · rw [if_neg q2, if_neg (J_ne_neg (by omega)), bd_s, bd_s, J_min (by omega) (by omega), if_neg (by omega)]
      · rw [if_pos (by simpa using q), if_neg q, bd_s]
    · have e : (10 : Int32) ≤ J (a + 1 + (10 - (a + 1))) := by rw [show (10 : Int32) = J 10 from rfl, J_le (by omega) (by omega)]; omega
      simp only [e, ↓reduceIte]
      rw [if_neg (by omega)]
    · rw [mnK_0, if_pos rfl]
end PMATCH
