section PQ2
def luredS (w : Nat → Int32) (g : Int32) : Int32 := (amax (fun h => !tb g h) (luresS w) (2 * nP w)).1
theorem luredX {n : Nat} (hn : 5000 < n) {L v : St} {w : Nat → Int32} (hL : LR L w) (hR : HR v w) (g : Int32) : Ok (m_X3_luredTo n v L g) (fun r => Fr [6] L r.2 ∧ r.1 = luredS w g) := by
  have h5 := hR.1.p5
  unfold m_X3_luredTo luredS
  refine ok_forE (fun k L' => ((amax (fun h => !tb g h) (luresS w) k).1, (amax (fun h => !tb g h) (luresS w) k).2, J k, L')) (2 * nP w) (fun k L' => Fr [6] L L') ?_ ?_ (by omega) L rfl (Fr.rfl _ _)
  · intro rc k L' hk hf ih
    have ih' : ∀ L2, Fr [6] L L2 → ∀ a : Int32 × Int32, amax (fun h => !tb g h) (luresS w) (k + 1) = a → Ok (rc (a.1, a.2, J (k + 1), L2)) (fun r => Fr [6] L r.2 ∧ r.1 = (amax (fun h => !tb g h) (luresS w) (2 * nP w)).1) := fun L2 h2 a ha => by rw [← ha]; exact ih L2 h2
    rw [amax_succ] at ih'
    generalize amax (fun h => !tb g h) (luresS w) k = a at ih' ⊢
    simp (disch := omega) only [Xhouses hR.1 hR.2.1, bd_s, J_le, Nat.not_le.mpr hk, ↓reduceIte, J_succ, shr_0]
    by_cases hg : tb g k = false
    · rw [if_pos hg]
      refine ok_bd (ok_bd2 (XluresBy hn (hL.fr hf) hR hk) (fun r hr => ?_))
      rw [hr.2]
      simp only [hg, Bool.not_false, ↓reduceIte] at ih'
      by_cases q : luresS w k ≤ a.2
      · rw [if_pos q]; rw [if_pos q] at ih'
        exact ok_some (ih' _ (hf.tr hr.1) _ rfl)
      · rw [if_neg q]; rw [if_neg q] at ih'
        exact ok_some (ih' _ (hf.tr hr.1) _ rfl)
    · rw [if_neg hg, bd_s]
      have hg2 : tb g k = true := by simpa using hg
      simp only [hg2, Bool.not_true, Bool.false_eq_true, ↓reduceIte] at ih'
      exact ih' _ hf _ rfl
  · intro rc L' hf
    simp (disch := omega) only [Xhouses hR.1 hR.2.1, bd_s, J_le, Nat.le_refl, ↓reduceIte]
    exact ok_some ⟨hf, rfl⟩
theorem luredR {n : Nat} (hn : 5000 < n) (V : St) (hI : WInv (V 1)) (hL : LWo (V 1)) (g : Int32) : Ok (m_X12_luredTo n V g) (fun r => Fr [17] V r.2 ∧ r.1 = luredS (V 1) g) := by
  have h5 := hI.p5
  unfold m_X12_luredTo luredS
  refine ok_forE (fun k L' => ((amax (fun h => !tb g h) (luresS (V 1)) k).1, (amax (fun h => !tb g h) (luresS (V 1)) k).2, J k, L')) (2 * nP (V 1)) (fun k L' => Fr [17] V L') ?_ ?_ (by omega) V rfl (Fr.rfl _ _)
  · intro rc k L' hk hf ih
    have hV : L' 1 = V 1 := hf 1 (by simp)
    have ih' : ∀ L2, Fr [17] V L2 → ∀ a : Int32 × Int32, amax (fun h => !tb g h) (luresS (V 1)) (k + 1) = a → Ok (rc (a.1, a.2, J (k + 1), L2)) (fun r => Fr [17] V r.2 ∧ r.1 = (amax (fun h => !tb g h) (luresS (V 1)) (2 * nP (V 1))).1) := fun L2 h2 a ha => by rw [← ha]; exact ih L2 h2
    have hge := amax_ge (fun h => !tb g h) (luresS (V 1)) k
    rw [amax_succ] at ih'
    generalize amax (fun h => !tb g h) (luresS (V 1)) k = a at ih' hge ⊢
    have hP : L' 1 0 = J (nP (L' 1)) := by rw [hV]; exact hI.p
    simp (disch := omega) only [houses_s n L' hP, hV, bd_s, J_le, Nat.not_le.mpr hk, ↓reduceIte, J_succ, holds_s]
    by_cases hg : tb g k = true
    · simp only [b2i, hg, ↓reduceIte, show ¬ ((1 : Int32) = 0) from by decide, bd_s]
      rw [if_pos hge, bd_s, nm_s, x_max_le hge]
      simp only [hg, Bool.not_true, Bool.false_eq_true, ↓reduceIte] at ih'
      exact ih' _ hf _ rfl
    · have hg2 : tb g k = false := by simpa using hg
      simp only [b2i, hg2, Bool.false_eq_true, ↓reduceIte]
      have hq := luresBy_ok hn L' (by rw [hV]; exact hI) (by rw [hV]; exact hL) (h := k) (by rw [hV]; exact hk)
      rw [hV] at hq
      refine ok_bd (ok_bd2 hq (fun r hr => ok_some ?_))
      dsimp only
      rw [hr.2]
      simp only [hg2, Bool.not_false, ↓reduceIte] at ih'
      by_cases q : luresS (V 1) k ≤ a.2
      · rw [if_pos q, bd_s, nm_s, x_max_le q]; rw [if_pos q] at ih'
        exact ih' _ (hf.tr hr.1) _ rfl
      · rw [if_neg q, bd_s, nm_s, x_max_gt q]; rw [if_neg q] at ih'
        exact ih' _ (hf.tr hr.1) _ rfl
  · intro rc L' hf
    have hV : L' 1 = V 1 := hf 1 (by simp)
    have hP : L' 1 0 = J (nP (L' 1)) := by rw [hV]; exact hI.p
    simp (disch := omega) only [houses_s n L' hP, hV, bd_s, J_le, Nat.le_refl, ↓reduceIte]
    exact ok_some ⟨hf, rfl⟩
theorem luredS_cases (w : Nat → Int32) (g : Int32) : luredS w g = -1 ∨ ∃ h, h < 2 * nP w ∧ luredS w g = J h := by
  rcases amax_inv (fun h => !tb g h) (luresS w) (2 * nP w) with h | ⟨j, hj, h, -, -⟩
  · exact .inl h.1
  · exact .inr ⟨j, hj, h⟩
theorem dearS_cases (w : Nat → Int32) (x : Int32) : dearS w x = -1 ∨ ∃ t, t < nT w ∧ dearS w x = J t ∧ w (54 + 3 * t) = x := by
  rcases amax_inv (fun t => decide (w (54 + 3 * t) = x)) (fun t => w (53 + 3 * t)) (nT w) with h | ⟨j, hj, h, -, hc⟩
  · exact .inl h.1
  · exact .inr ⟨j, hj, h, by simpa using hc⟩
-- bounds
theorem lean_b (st d : Int32) : ∃ i, i < 11 ∧ leanS st d = J i - 5 := by
  unfold leanS
  generalize d / st = x
  have h1 : (-5 : Int32) ≤ x_max (-5) (x_min 5 x) := by unfold x_max; split <;> grind
  have h2 : x_max (-5) (x_min 5 x) ≤ 5 := by unfold x_max x_min; grind
  generalize x_max (-5) (x_min 5 x) = y at h1 h2 ⊢
  rw [Int32.le_iff_toInt_le, show (-5 : Int32).toInt = -5 from by decide] at h1
  rw [Int32.le_iff_toInt_le, show (5 : Int32).toInt = 5 from by decide] at h2
  refine ⟨(y.toInt + 5).toNat, by omega, ?_⟩
  have key : ∀ i : Nat, i < 11 → (J i - 5).toInt = (i : Int) - 5 := by decide +kernel
  apply Int32.toInt_inj.mp
  rw [key _ (by omega)]; omega
theorem tilt_b (w : Nat → Int32) (p : Nat) : ∃ i, i < 11 ∧ tiltS w p = J i - 5 := by
  unfold tiltS
  split
  · exact ⟨5, by omega, by decide⟩
  · exact lean_b _ _
theorem height_b (w : Nat → Int32) (h : Nat) : ∃ i, i < 11 ∧ heightS w h = J i := by
  unfold heightS
  obtain ⟨i, hi, e⟩ := tilt_b w (h / 2)
  rw [e]
  split
  · exact ⟨0, by omega, rfl⟩
  · split
    · exact ⟨i, hi, by grind⟩
    · refine ⟨10 - i, by omega, ?_⟩
      have key : ∀ i : Nat, i < 11 → 5 - (J i - 5) = J (10 - i) := by decide +kernel
      exact key i hi
def lowS (w : Nat → Int32) (h : Nat) : Int32 := x_max 0 (5 - heightS w h)
theorem low_b (w : Nat → Int32) (h : Nat) : ∃ i, i ≤ 5 ∧ lowS w h = J i := by
  obtain ⟨i, hi, e⟩ := height_b w h
  unfold lowS; rw [e]
  have key : ∀ i : Nat, i < 11 → x_max 0 (5 - J i) = J (5 - i) := by decide +kernel
  exact ⟨5 - i, by omega, key i hi⟩
theorem sumN_b {f : Nat → Int32} {B : Nat} (hB : ∀ k, ∃ i, i ≤ B ∧ f k = J i) : ∀ N, ∃ s, s ≤ B * N ∧ sumN f N = J s
  | 0 => ⟨0, by omega, rfl⟩
  | N + 1 => by
    obtain ⟨s, hs, e⟩ := sumN_b hB N
    obtain ⟨i, hi, e2⟩ := hB N
    exact ⟨s + i, by rw [Nat.mul_succ]; omega, by rw [sumN_succ, e, e2, J_add]⟩
-- share, cork
def shareS (w : Nat → Int32) (h : Nat) : Int32 := if sumN (lowS w) (2 * nP w) = 0 then 0 else 100 * lowS w h / sumN (lowS w) (2 * nP w)
theorem shareX {n : Nat} (hn : 5000 < n) {v : St} {w : Nat → Int32} (hR : HR v w) {h : Nat} (hh : h < 2 * nP w) : m_X3_shareOf n v (J h) = some (shareS w h) := by
  have h5 := hR.1.p5
  unfold m_X3_shareOf
  rw [show lp _ n ((0 : Int32), (0 : Int32)) = some (sumN (lowS w) (2 * nP w)) from by
    unfold sumN
    refine lp_fold (fun k a => (a, J k)) _ (fun a => a) 0 (2 * nP w) (fun rc k a hk => ?_) (fun rc a => ?_) (by omega) rfl
    · simp (disch := omega) only [Xhouses hR.1 hR.2.1, bd_s, J_le, Nat.not_le.mpr hk, ↓reduceIte, ix_J, J_nat, (hR.2.2 k hk).2, nm_s, J_succ]; rfl
    · simp (disch := omega) only [Xhouses hR.1 hR.2.1, bd_s, J_le, Nat.le_refl, ↓reduceIte]]
  obtain ⟨s, hs, e⟩ := sumN_b (low_b w) (2 * nP w)
  unfold shareS
  rw [bd_s, e]
  by_cases h0 : s = 0
  · subst h0; rw [if_pos (by decide), if_pos (by decide)]
  · have e1 : ¬ J s ≤ 0 := by rw [show (0 : Int32) = J 0 from rfl, J_le (by omega) (by omega)]; omega
    have e2 : ¬ J s = 0 := by rw [show (0 : Int32) = J 0 from rfl, J_inj (by omega) (by omega)]; omega
    simp (disch := omega) only [e1, e2, ↓reduceIte, ix_J, J_nat, (hR.2.2 h hh).2, not_false_eq_true]; rfl
theorem shareR {n : Nat} (hn : 5000 < n) {u : St} (hI : WInv (u 1)) {h : Nat} (hh : h < 2 * nP (u 1)) : m_X12_shareOf n u (J h) = some (shareS (u 1) h) := by
  have h5 := hI.p5
  unfold m_X12_shareOf
  have low : ∀ k, k < 10 → m_X12_lowOf n u (J k) = some (lowS (u 1) k) := fun k hk => by unfold m_X12_lowOf; rw [heightOf_s hn u hI hk, bd_s]; rfl
  rw [show lp _ n ((0 : Int32), (0 : Int32)) = some (sumN (lowS (u 1)) (2 * nP (u 1))) from by
    unfold sumN
    refine lp_fold (fun k a => (a, J k)) _ (fun a => a) 0 (2 * nP (u 1)) (fun rc k a hk => ?_) (fun rc a => ?_) (by omega) rfl
    · simp (disch := omega) only [houses_s n u hI.p, bd_s, J_le, Nat.not_le.mpr hk, ↓reduceIte, low, nm_s, J_succ]
    · simp (disch := omega) only [houses_s n u hI.p, bd_s, J_le, Nat.le_refl, ↓reduceIte]]
  unfold shareS
  rw [bd_s, low h (by omega)]
  by_cases h0 : sumN (lowS (u 1)) (2 * nP (u 1)) = 0
  · rw [if_pos h0, if_pos h0]
  · rw [if_neg h0, bd_s, if_pos h0, if_neg h0]
theorem wgI_b {w : Nat → Int32} (hI : WInv w) (x : Int32) : ∃ s, s ≤ 600 ∧ wgI w x = J s := by
  unfold wgI
  have key : ∀ N, N ≤ nT w → ∃ s, s ≤ 60 * N ∧ foldN (fun t a => a + (if w (54 + 3 * t) = x then w (52 + 3 * t) else 0)) 0 N = J s := by
    intro N
    induction N with
    | zero => exact fun _ => ⟨0, by omega, rfl⟩
    | succ N ih =>
      intro hN
      obtain ⟨s, hs, e⟩ := ih (by omega)
      obtain ⟨k, ek, -, hk⟩ := (hI.th (t := N) (by omega)).1
      by_cases q : w (54 + 3 * N) = x
      · exact ⟨s + k, by omega, by simp only [foldN, e, q, ↓reduceIte, ek, J_add]⟩
      · exact ⟨s, by omega, by simp only [foldN, e, q, ↓reduceIte, Int32.add_zero]⟩
  obtain ⟨s, hs, e⟩ := key (nT w) (Nat.le_refl _)
  have := hI.t10
  exact ⟨s, by omega, e⟩
theorem load_b {w : Nat → Int32} (hI : WInv w) {h : Nat} (hh : h < 2 * nP w) : ∃ s, s ≤ 744 ∧ loadS w h = J s := by
  obtain ⟨a, ha, e1⟩ := wgI_b hI (J h)
  obtain ⟨b, e2, -, hb⟩ := hI.ho hh
  obtain ⟨c, e3, -, hc⟩ := hI.snow
  refine ⟨a + 5 * b + c, by omega, ?_⟩
  unfold loadS
  rw [e1, e2, e3, show (5 : Int32) = J 5 from rfl, J_mul, J_add, J_add]
def oth (h : Nat) : Nat := if h % 2 = 0 then h + 1 else h - 1
def corkS (w : Nat → Int32) (h : Nat) : Int32 := if w (15 + 4 * (h / 2)) = 1 then 0 else if w (14 + 4 * (h / 2)) = 1 then 5 else 5 + leanS (w 6) (loadS w (oth h) - w 5)
theorem oth_s {h : Nat} (hh : h < 10) : (if x_rem (J h) 2 = 0 then some (J h + 1) else some (J h - 1)) = some (J (oth h)) := by
  unfold oth
  by_cases e : h % 2 = 0
  · rw [if_pos ((rem2_0 hh).mpr e), if_pos e, J_succ]
  · rw [if_neg (fun q => e ((rem2_0 hh).mp q)), if_neg e, J_pred (by omega)]
theorem oth_lt {h P : Nat} (hh : h < 2 * P) : oth h < 2 * P := by unfold oth; split <;> omega
theorem corkX {n : Nat} {v : St} {w : Nat → Int32} (hR : HR v w) {h : Nat} (hh : h < 2 * nP w) : m_X3_corkOf n v (J h) = some (corkS w h) := by
  have h5 := hR.1.p5
  have ho := oth_lt hh
  have hb := (hR.1.pl (p := h / 2) (by omega)).2.2
  unfold m_X3_corkOf corkS
  simp (disch := omega) only [nm_s, J_div2, ix_J, J_nat, ↓reduceIte, oth_s, bd_s, hR.2.1.broken (p := h / 2) (by omega), hR.2.1.prop (p := h / 2) (by omega), hR.2.1.snow, (hR.2.2 _ ho).1, Xleaning hR.1 hR.2.1]
  rcases hb with ⟨e | e, e2 | e2⟩ <;> simp [e, e2]
theorem clamp_toInt (x : Int32) : (x_max (-5) (x_min 5 x)).toInt = max (-5) (min 5 x.toInt) := by
  unfold x_max x_min
  simp only [Int32.lt_iff_toInt_lt, show (-5 : Int32).toInt = -5 from by decide]
  by_cases c1 : x.toInt < (5 : Int32).toInt
  · have c1' : x.toInt < 5 := c1
    rw [if_pos c1]
    by_cases c2 : -5 < x.toInt
    · rw [if_pos c2]; omega
    · rw [if_neg c2, show (-5 : Int32).toInt = -5 from by decide]; omega
  · have c1' : ¬ x.toInt < 5 := c1
    rw [if_neg c1, if_pos (by decide), show (5 : Int32).toInt = 5 from by decide]; omega
theorem lean_neg {st d : Int32} (hd : d ≠ Int32.minValue) (h1 : inB st 1 40) : leanS st (-d) = -leanS st d := by
  obtain ⟨k, rfl, hk1, hk2⟩ := h1
  have e : (-d) / J k = -(d / J k) := by
    apply Int32.toInt_inj.mp
    have hs : (J k).toInt = k := J_toInt (by omega)
    have hdb := Int32.le_toInt d
    have hdl := Int32.toInt_lt d
    have hdm : d.toInt ≠ -2147483648 := fun q => hd (Int32.toInt_inj.mp (by rw [q]; decide))
    have n1 : (-d).toInt = -d.toInt := by rw [Int32.toInt_neg]; apply Int.bmod_eq_of_le <;> omega
    have hq1 : (d.toInt.tdiv k).natAbs ≤ d.toInt.natAbs := by rw [Int.natAbs_tdiv]; exact Nat.div_le_self _ _
    have a1 : (d / J k).toInt = d.toInt.tdiv k := by rw [Int32.toInt_div, hs]; apply Int.bmod_eq_of_le <;> omega
    have a2 : (-d / J k).toInt = (-d.toInt).tdiv k := by rw [Int32.toInt_div, hs, n1]; rw [Int.neg_tdiv]; apply Int.bmod_eq_of_le <;> omega
    rw [a2, Int.neg_tdiv, Int32.toInt_neg, a1]
    symm; apply Int.bmod_eq_of_le <;> omega
  have hnm : d / J k ≠ Int32.minValue := by
    intro q
    have hs : (J k).toInt = k := J_toInt (by omega)
    have hdb := Int32.le_toInt d
    have hdl := Int32.toInt_lt d
    have hdm : d.toInt ≠ -2147483648 := fun q => hd (Int32.toInt_inj.mp (by rw [q]; decide))
    have hq1 : (d.toInt.tdiv k).natAbs ≤ d.toInt.natAbs := by rw [Int.natAbs_tdiv]; exact Nat.div_le_self _ _
    have a1 : (d / J k).toInt = d.toInt.tdiv k := by rw [Int32.toInt_div, hs]; apply Int.bmod_eq_of_le <;> omega
    rw [q] at a1
    have : Int32.minValue.toInt = -2147483648 := by decide
    omega
  unfold leanS
  rw [e]
  generalize d / J k = x at hnm ⊢
  have hm : x.toInt ≠ -2147483648 := fun q => hnm (Int32.toInt_inj.mp (by rw [q]; decide))
  have hdb := Int32.le_toInt x
  have hdl := Int32.toInt_lt x
  have n1 : (-x).toInt = -x.toInt := by rw [Int32.toInt_neg]; apply Int.bmod_eq_of_le <;> omega
  apply Int32.toInt_inj.mp
  rw [clamp_toInt, n1, Int32.toInt_neg, clamp_toInt]
  rw [Int.bmod_eq_of_le (by omega) (by omega)]
  omega
theorem JJ_ne {a b : Nat} (ha : a ≤ 744) (hb : b ≤ 744) : J a - J b ≠ Int32.minValue := by
  intro q
  have e := congrArg Int32.toInt q
  rw [Int32.toInt_sub, J_toInt (by omega), J_toInt (by omega), Int.bmod_eq_of_le (by omega) (by omega), show Int32.minValue.toInt = -2147483648 from by decide] at e
  omega
theorem corkR {n : Nat} (hn : 5000 < n) {u : St} (hI : WInv (u 1)) {h : Nat} (hh : h < 2 * nP (u 1)) : m_X12_corkOf n u (J h) = some (corkS (u 1) h) := by
  have h5 := hI.p5
  have ho := oth_lt hh
  have hb := (hI.pl (p := h / 2) (by omega)).2.2
  unfold m_X12_corkOf corkS
  obtain ⟨a, ha, e1⟩ := load_b hI ho
  obtain ⟨c, e3, -, hc⟩ := hI.snow
  have hneg := lean_neg (JJ_ne (a := a) (b := c) (by omega) (by omega)) hI.step
  rw [← e1, ← e3, show -(loadS (u 1) (oth h) - u 1 5) = u 1 5 - loadS (u 1) (oth h) from by grind] at hneg
  simp (disch := omega) only [plankOf_s, bd_s, oth_s, loadOf_s hn u hI, nm_s, isPropped_s, isBroken_s, tiltBy_s n u hI, heightBy_s]
  simp (disch := omega) only [rem2_0]
  by_cases hm : h % 2 = 0
  · rcases hb with ⟨e | e, e2 | e2⟩ <;> simp [e, e2, b2i, hm, bd_s]
  · rcases hb with ⟨e | e, e2 | e2⟩ <;> simp [e, e2, b2i, hm, bd_s, hneg] <;> grind
end PQ2
