section PCARRY
/-- by how much the second one has more, if a set changes houses -/
def shS (w : Nat → Int32) (p : Nat) (s : Int32) : Int32 := foldN (fun t a => if tb s t then (if w (54 + 3 * t) = J (2 * p) then a + 2 * w (52 + 3 * t) else if w (54 + 3 * t) = J (2 * p + 1) then a - 2 * w (52 + 3 * t) else a) else a) 0 (nT w)
def dfS (w : Nat → Int32) (p : Nat) : Int32 := loadS w (2 * p + 1) - loadS w (2 * p)
theorem shX {n : Nat} (hn : 5000 < n) {v : St} {w : Nat → Int32} (hI : WInv w) (hB : HB v w) (p : Nat) (s : Int32) : m_X0_shiftOf n v (J p) s = some (shS w p s) := by
  have h5 := hI.t10
  unfold m_X0_shiftOf shS
  refine lp_fold (fun k a => (a, J k)) _ (fun a => a) 0 (nT w) (fun rc k a hk => ?_) (fun rc a => ?_) (by omega) rfl
  · simp (disch := omega) only [hB.t, hI.t, J_le, Nat.not_le.mpr hk, ↓reduceIte, ix_J, J_nat, hB.home hk, hB.weight hk, nm_s, J_dbl, J_dbl1, shr_0]
    rw [J_succ k]
    cases tb s k
    · simp only [↓reduceIte, Bool.false_eq_true, bd_s]
    · by_cases q : w (54 + 3 * k) = J (2 * p)
      · simp only [q, ↓reduceIte, Bool.true_eq_false, bd_s]
      · by_cases q2 : w (54 + 3 * k) = J (2 * p + 1)
        · simp only [q, q2, ↓reduceIte, Bool.true_eq_false, bd_s]
          rw [if_neg (by rw [← q2]; exact q), bd_s, if_neg (by rw [← q2]; exact q)]
        · simp only [q, q2, ↓reduceIte, Bool.true_eq_false, bd_s]
  · simp (disch := omega) only [hB.t, hI.t, J_le, Nat.le_refl, ↓reduceIte]
theorem shS_eq {w : Nat → Int32} (hI : WInv w) (p : Nat) (s : Int32) : 2 * wgS w (s &&& inS w (J (2 * p))) - 2 * wgS w (s &&& inS w (J (2 * p + 1))) = shS w p s := by
  have h10 := hI.t10
  unfold wgS shS inS
  have key : ∀ N, N ≤ nT w → 2 * foldN (fun t a => a + (if tb (s &&& setN (fun t => decide (w (54 + 3 * t) = J (2 * p))) (nT w)) t then w (52 + 3 * t) else 0)) 0 N - 2 * foldN (fun t a => a + (if tb (s &&& setN (fun t => decide (w (54 + 3 * t) = J (2 * p + 1))) (nT w)) t then w (52 + 3 * t) else 0)) 0 N = foldN (fun t a => if tb s t then (if w (54 + 3 * t) = J (2 * p) then a + 2 * w (52 + 3 * t) else if w (54 + 3 * t) = J (2 * p + 1) then a - 2 * w (52 + 3 * t) else a) else a) 0 N := by
    intro N
    induction N with
    | zero => intro _; show (2 * 0 - 2 * 0 : Int32) = 0; decide
    | succ N ih =>
      intro hN
      simp only [foldN]
      rw [← ih (by omega)]
      rw [tb_and, tb_and, tb_set _ _ (by omega) N (by omega), tb_set _ _ (by omega) N (by omega)]
      simp only [show N < nT w from by omega, decide_true, Bool.true_and]
      cases tb s N
      · simp only [Bool.false_and, Bool.false_eq_true, ↓reduceIte, Int32.add_zero]
      · simp only [Bool.true_and, decide_eq_true_eq, ↓reduceIte]
        by_cases q : w (54 + 3 * N) = J (2 * p)
        · have q2 : ¬ w (54 + 3 * N) = J (2 * p + 1) := by
            rw [q]; intro e
            have e1 : J (2 * p + 1) = J (2 * p) + 1 := (J_dbl1 p).symm
            rw [e1] at e
            grind
          rw [if_pos q, if_neg q2, if_pos q]; grind
        · by_cases q2 : w (54 + 3 * N) = J (2 * p + 1)
          · rw [if_neg q, if_pos q2, if_neg q, if_pos q2]; grind
          · rw [if_neg q, if_neg q2, if_neg q, if_neg q2]; grind
  exact key (nT w) (Nat.le_refl _)
theorem mbR {n : Nat} (hn : 5000 < n) {u : St} (hI : WInv (u 1)) {p : Nat} (hp : p < nP (u 1)) (s : Int32) : m_X12_moreBehind n u (J p) s = some (dfS (u 1) p + shS (u 1) p s) := by
  have h5 := hI.p5
  unfold m_X12_moreBehind
  simp (disch := omega) only [J_dbl, J_dbl1, loadOf_s hn u hI, thingsIn_s hn u _ hI.t hI.t10, weightOf_s hn u _ hI.t hI.t10, bd_s]
  rw [← shS_eq hI]
  unfold dfS
  congr 1; grind
theorem shS_0 (w : Nat → Int32) (p : Nat) : shS w p 0 = 0 := by
  unfold shS
  generalize nT w = N
  induction N with
  | zero => rfl
  | succ N ih =>
    show (if tb 0 N = true then _ else _) = (0 : Int32)
    rw [tb_0, if_neg (by simp)]; exact ih
def thS (w : Nat → Int32) (p : Nat) : Int32 := inS w (J (2 * p)) ||| inS w (J (2 * p + 1))
theorem thR {n : Nat} (hn : 5000 < n) {u : St} (hI : WInv (u 1)) (p : Nat) : m_X12_thingsOf n u (J p) = some (thS (u 1) p) := by
  unfold m_X12_thingsOf
  rw [J_dbl, J_dbl1, thingsIn_s hn u _ hI.t hI.t10, bd_s, thingsIn_s hn u _ hI.t hI.t10, bd_s]; rfl
theorem tb_th {w : Nat → Int32} (hI : WInv w) (p : Nat) {t : Nat} (ht : t < 32) : tb (thS w p) t = (decide (t < nT w) && (decide (w (54 + 3 * t) = J (2 * p)) || decide (w (54 + 3 * t) = J (2 * p + 1)))) := by
  have := hI.t10
  unfold thS inS
  rw [tb_or, tb_set _ _ (by omega) t ht, tb_set _ _ (by omega) t ht, Bool.and_or_distrib_left]
/-- a set of one thing alone -/
theorem shS_1 (w : Nat → Int32) (p : Nat) {k : Nat} (hT : nT w ≤ 10) : shS w p (x_shl 1 (J k)) = if k < nT w ∧ k < 32 then (if w (54 + 3 * k) = J (2 * p) then 0 + 2 * w (52 + 3 * k) else if w (54 + 3 * k) = J (2 * p + 1) then 0 - 2 * w (52 + 3 * k) else 0) else shS w p (x_shl 1 (J k)) := by
  by_cases h : k < nT w ∧ k < 32
  · rw [if_pos h]
    unfold shS
    have key : ∀ N, N ≤ nT w → foldN (fun t a => if tb (x_shl 1 (J k)) t then (if w (54 + 3 * t) = J (2 * p) then a + 2 * w (52 + 3 * t) else if w (54 + 3 * t) = J (2 * p + 1) then a - 2 * w (52 + 3 * t) else a) else a) 0 N = if k < N then (if w (54 + 3 * k) = J (2 * p) then 0 + 2 * w (52 + 3 * k) else if w (54 + 3 * k) = J (2 * p + 1) then 0 - 2 * w (52 + 3 * k) else 0) else 0 := by
      intro N
      induction N with
      | zero => intro _; rw [if_neg (by omega)]; rfl
      | succ N ih =>
        intro hN
        have ih := ih (by omega)
        simp only [foldN]
        rw [tb_shl h.2 (by omega)]
        by_cases e : N = k
        · subst e
          rw [if_neg (by omega)] at ih
          rw [ih, if_pos (by simp), if_pos (show N < N + 1 by omega)]
        · rw [if_neg (by simpa using e), ih]
          by_cases q : k < N
          · rw [if_pos q, if_pos (show k < N + 1 by omega)]
          · rw [if_neg q, if_neg (show ¬ k < N + 1 by omega)]
    rw [key _ (Nat.le_refl _), if_pos h.1]
  · rw [if_neg h]
-- BEST
def bestS (w : Nat → Int32) (p : Nat) : Int32 × Int32 := foldN (fun t (s : Int32 × Int32) => if s.1 ≤ x_abs (dfS w p + shS w p (x_shl 1 (J t))) then s else (x_abs (dfS w p + shS w p (x_shl 1 (J t))), J t)) (x_abs (dfS w p), -1) (nT w)
theorem bestX {n : Nat} (hn : 5000 < n) {v : St} {w : Nat → Int32} (hR : HR v w) {p : Nat} (hp : p < nP w) : m_X0_levelling n v (J p) = some (bestS w p).2 := by
  have h5 := hR.1.p5
  have h10 := hR.1.t10
  unfold m_X0_levelling bestS
  simp (disch := omega) only [J_dbl, J_dbl1, ix_J, ↓reduceIte, J_nat, (hR.2.2 (2 * p) (by omega)).1, (hR.2.2 (2 * p + 1) (by omega)).1, nm_s]
  refine lp_fold (fun k (a : Int32 × Int32) => (a.1, a.2, J k)) _ (fun a => a.2) _ (nT w) (fun rc k a hk => ?_) (fun rc a => ?_) (by omega) rfl
  · simp (disch := omega) only [hR.2.1.t, hR.1.t, J_le, Nat.not_le.mpr hk, ↓reduceIte, shX hn hR.1 hR.2.1, bd_s, J_succ, nm_s]
    by_cases q : a.1 ≤ x_abs (dfS w p + shS w p (x_shl 1 (J k))) <;> simp only [dfS] at q ⊢ <;> simp only [q, ↓reduceIte, bd_s]
  · simp (disch := omega) only [hR.2.1.t, hR.1.t, J_le, Nat.le_refl, ↓reduceIte]
theorem bestR {n : Nat} (hn : 5000 < n) {V : St} (hI : WInv (V 1)) (x : Int32) : m_X12_best n V x = if ix x (nP (V 1)) then some ((bestS (V 1) x.toNatClampNeg).2, su V 0 0 0) else some (0, su V 0 0 1) := by
  unfold m_X12_best
  rw [nm_s]
  have e0 : su V 0 0 1 = su (su V 0 0 0) 0 0 1 := (su0su _ _ _).symm
  rw [e0]
  rw [← su01 V 0] at hI ⊢
  generalize su V 0 0 0 = u at hI ⊢
  rw [refP hI]
  by_cases hx : ix x (nP (u 1))
  · rw [if_pos hx, if_pos hx]
    have h5 := hI.p5
    have h10 := hI.t10
    obtain ⟨p, rfl, hp, hp2⟩ := of_ix hx
    rw [J_nat hp2]
    simp only [↓reduceIte, mbR hn hI hp, shS_0, Int32.add_zero, bd_s, nm_s]
    refine lp_seq (fun k => ((foldN (fun t (s : Int32 × Int32) => if s.1 ≤ x_abs (dfS (u 1) p + shS (u 1) p (x_shl 1 (J t))) then s else (x_abs (dfS (u 1) p + shS (u 1) p (x_shl 1 (J t))), J t)) (x_abs (dfS (u 1) p), -1) k).2, (foldN (fun t (s : Int32 × Int32) => if s.1 ≤ x_abs (dfS (u 1) p + shS (u 1) p (x_shl 1 (J t))) then s else (x_abs (dfS (u 1) p + shS (u 1) p (x_shl 1 (J t))), J t)) (x_abs (dfS (u 1) p), -1) k).1, J k)) (nT (u 1)) (fun rc k hk => ?_) (fun rc => ?_) (by omega) rfl
    · have hle : (foldN (fun t (s : Int32 × Int32) => if s.1 ≤ x_abs (dfS (u 1) p + shS (u 1) p (x_shl 1 (J t))) then s else (x_abs (dfS (u 1) p + shS (u 1) p (x_shl 1 (J t))), J t)) (x_abs (dfS (u 1) p), -1) k).1 ≤ x_abs (dfS (u 1) p) := by
        refine foldN_ind (R := fun _ (s : Int32 × Int32) => s.1 ≤ x_abs (dfS (u 1) p)) (by grind) (fun k a _ h => ?_)
        by_cases q : a.1 ≤ x_abs (dfS (u 1) p + shS (u 1) p (x_shl 1 (J k)))
        · rw [if_pos q]; exact h
        · rw [if_neg q]; dsimp only; grind
      simp only [foldN]
      generalize foldN _ (x_abs (dfS (u 1) p), (-1 : Int32)) k = a at hle ⊢
      simp (disch := omega) only [things_s, hI.t, bd_s, J_le, Nat.not_le.mpr hk, ↓reduceIte, thR hn hI, holds_s, J_succ]
      rw [tb_th hI p (by omega)]
      simp only [hk, decide_true, Bool.true_and, Bool.or_eq_true, decide_eq_true_eq]
      by_cases q : u 1 (54 + 3 * k) = J (2 * p) ∨ u 1 (54 + 3 * k) = J (2 * p + 1)
      · simp only [b2i, q, ↓reduceIte, show ¬ ((1 : Int32) = 0) from by decide, mbR hn hI hp, bd_s, nm_s]
        by_cases q2 : a.1 ≤ x_abs (dfS (u 1) p + shS (u 1) p (x_shl 1 (J k)))
        · simp only [q2, ↓reduceIte, bd_s, x_min_le q2]
        · simp only [q2, ↓reduceIte, bd_s, x_min_gt q2]
      · have e1 : shS (u 1) p (x_shl 1 (J k)) = 0 := by
          rw [shS_1 _ _ h10, if_pos ⟨hk, by omega⟩, if_neg (fun h => q (.inl h)), if_neg (fun h => q (.inr h))]
        simp only [b2i, q, ↓reduceIte, bd_s, e1, Int32.add_zero, hle]
    · simp (disch := omega) only [things_s, hI.t, bd_s, J_le, Nat.le_refl, ↓reduceIte, bestS]
  · rw [if_neg hx, if_neg hx]
    rfl
end PCARRY
