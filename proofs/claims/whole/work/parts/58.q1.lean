section PQ1
theorem viewX {n : Nat} (hn : 5000 < n) {v0 v : St} {w : Nat → Int32} (hR : HR v w) : m_X11_view n v0 v = some (setN (fun h => decide (¬ heightS w h ≤ 5)) (2 * nP w)) := by
  have := hR.1.p5
  unfold m_X11_view setN
  refine lp_fold (fun k a => (a, J k)) _ (fun a => a) 0 (2 * nP w) (fun rc k a hk => ?_) (fun rc a => ?_) (by omega) rfl
  · simp (disch := omega) only [Xhouses hR.1 hR.2.1, bd_s, J_le, Nat.not_le.mpr hk, ↓reduceIte, ix_J, J_nat, (hR.2.2 k hk).2, nm_s, J_succ]
    by_cases e : heightS w k ≤ 5
    · simp only [e, ↓reduceIte, bd_s, not_true_eq_false, decide_false, Bool.false_eq_true]
    · simp only [e, ↓reduceIte, bd_s, not_false_eq_true, decide_true]
  · simp (disch := omega) only [Xhouses hR.1 hR.2.1, bd_s, J_le, Nat.le_refl, ↓reduceIte]
theorem viewR {n : Nat} (hn : 5000 < n) {V : St} (hI : WInv (V 1)) : m_X12_view n V = some (setN (fun h => decide (¬ heightS (V 1) h ≤ 5)) (2 * nP (V 1)), su V 0 0 0) := by
  have := hI.p5
  unfold m_X12_view setN
  rw [nm_s]
  rw [← su01 V 0] at hI ⊢
  generalize su V 0 0 0 = u at hI ⊢
  have := hI.p5
  refine lp_fold (fun k a => (a, J k)) _ (fun a => (a, u)) 0 (2 * nP (u 1)) (fun rc k a hk => ?_) (fun rc a => ?_) (by omega) rfl
  · simp (disch := omega) only [houses_s n u hI.p, heightOf_s hn u hI, bd_s, J_le, Nat.not_le.mpr hk, ↓reduceIte, nm_s, J_succ]
    by_cases e : heightS (u 1) k ≤ 5
    · simp only [e, ↓reduceIte, bd_s, not_true_eq_false, decide_false, Bool.false_eq_true, Int32.or_zero]
    · simp only [e, ↓reduceIte, bd_s, not_false_eq_true, decide_true]
  · simp (disch := omega) only [houses_s n u hI.p, bd_s, J_le, Nat.le_refl, ↓reduceIte]
theorem wellX {n : Nat} (hn : 5000 < n) {v0 v : St} {w : Nat → Int32} (hR : HR v w) : m_X11_well n v0 v = some (setN (fun h => decide (¬ 5 ≤ heightS w h)) (2 * nP w)) := by
  have := hR.1.p5
  unfold m_X11_well setN
  refine lp_fold (fun k a => (a, J k)) _ (fun a => a) 0 (2 * nP w) (fun rc k a hk => ?_) (fun rc a => ?_) (by omega) rfl
  · simp (disch := omega) only [Xhouses hR.1 hR.2.1, bd_s, J_le, Nat.not_le.mpr hk, ↓reduceIte, ix_J, J_nat, (hR.2.2 k hk).2, nm_s, J_succ]
    by_cases e : 5 ≤ heightS w k
    · simp only [e, ↓reduceIte, bd_s, not_true_eq_false, decide_false, Bool.false_eq_true]
    · simp only [e, ↓reduceIte, bd_s, not_false_eq_true, decide_true]
  · simp (disch := omega) only [Xhouses hR.1 hR.2.1, bd_s, J_le, Nat.le_refl, ↓reduceIte]
theorem wellR {n : Nat} (hn : 5000 < n) {V : St} (hI : WInv (V 1)) : m_X12_well n V = some (setN (fun h => decide (¬ 5 ≤ heightS (V 1) h)) (2 * nP (V 1)), su V 0 0 0) := by
  unfold m_X12_well setN
  rw [nm_s]
  rw [← su01 V 0] at hI ⊢
  generalize su V 0 0 0 = u at hI ⊢
  have := hI.p5
  refine lp_fold (fun k a => (a, J k)) _ (fun a => (a, u)) 0 (2 * nP (u 1)) (fun rc k a hk => ?_) (fun rc a => ?_) (by omega) rfl
  · simp (disch := omega) only [houses_s n u hI.p, heightOf_s hn u hI, bd_s, J_le, Nat.not_le.mpr hk, ↓reduceIte, nm_s, J_succ]
    by_cases e : 5 ≤ heightS (u 1) k
    · simp only [e, ↓reduceIte, bd_s, not_true_eq_false, decide_false, Bool.false_eq_true, Int32.or_zero]
    · simp only [e, ↓reduceIte, bd_s, not_false_eq_true, decide_true]
  · simp (disch := omega) only [houses_s n u hI.p, bd_s, J_le, Nat.le_refl, ↓reduceIte]
-- twins, alike
def twC (w : Nat → Int32) (a b : Nat) : Int32 := if ¬ w (15 + 4 * a) = 1 ∧ ¬ w (15 + 4 * b) = 1 ∧ tiltS w a = tiltS w b then 1 else 0
theorem twC_sym (w : Nat → Int32) (a b : Nat) : twC w a b = twC w b a := by
  unfold twC
  by_cases h : ¬ w (15 + 4 * a) = 1 ∧ ¬ w (15 + 4 * b) = 1 ∧ tiltS w a = tiltS w b
  · rw [if_pos h, if_pos ⟨h.2.1, h.1, h.2.2.symm⟩]
  · rw [if_neg h, if_neg (fun q => h ⟨q.2.1, q.1, q.2.2.symm⟩)]
def alC (w : Nat → Int32) (a b : Nat) : Int32 := if loadS w a = loadS w b ∧ heightS w a = heightS w b then 1 else 0
theorem alC_sym (w : Nat → Int32) (a b : Nat) : alC w a b = alC w b a := by
  unfold alC
  by_cases h : loadS w a = loadS w b ∧ heightS w a = heightS w b
  · rw [if_pos h, if_pos ⟨h.1.symm, h.2.symm⟩]
  · rw [if_neg h, if_neg (fun q => h ⟨q.1.symm, q.2.symm⟩)]
theorem XtiltR {n : Nat} {v : St} {w : Nat → Int32} (hR : HR v w) {p : Nat} (hp : p < nP w) : m_X3_tiltOf n v (J p) = some (tiltS w p) := XtiltOf hR.1 hR.2.1 hp (hR.2.2 _ (by omega)).1 (hR.2.2 _ (by omega)).1
theorem twinsX {n : Nat} (hn : 5000 < n) {v0 v : St} {w : Nat → Int32} (hR : HR v w) : m_X11_twins n v0 v = some (sumN (fun a => sumN (fun k => twC w a (a + 1 + k)) (nP w - (a + 1))) (nP w)) := by
  have h5 := hR.1.p5
  unfold m_X11_twins
  refine lp_fold (fun k a => (a, J k)) (fun k a => a + sumN (fun i => twC w k (k + 1 + i)) (nP w - (k + 1))) (fun a => a) 0 (nP w) (fun rc k a hk => ?_) (fun rc a => ?_) (by omega) rfl
  · have inner : ∀ (x : Int32 × Int32), x = (a, J (k + 1)) → lp (fun (rc4 : Int32 × Int32 → Option (Int32)) (x4l : Int32 × Int32) =>
(if (v 0 0) ≤ x4l.2 then
some x4l.1
else
(if ix (J k) 5 then bd (jn (fun (t10 : Unit) =>
some 0) (fun (K10 : Unit → Option (Int32)) =>
(if (v 12 (J k).toNatClampNeg) = 0 then
(if ix x4l.2 5 then (if (v 12 (x4l.2).toNatClampNeg) = 0 then
some 1
else
K10 ()) else none)
else
K10 ()))) (fun (t6 : Int32) =>
bd ((if t6 = 0 then
some x4l.1
else
bd (m_X3_tiltOf n v (J k)) (fun t8 =>
bd (m_X3_tiltOf n v x4l.2) (fun t9 =>
(if t8 = t9 then
some (x4l.1 + 1)
else
some x4l.1))))) (fun (t7 : Int32) =>
rc4 (t7, (x4l.2 + 1)))) else none))) n x = some (a + sumN (fun i => twC w k (k + 1 + i)) (nP w - (k + 1))) := by
      rintro x rfl
      rw [← sumN_acc]
      refine lp_fold (fun i a => (a, J (k + 1 + i))) _ (fun a => a) a (nP w - (k + 1)) (fun rc i a hi => ?_) (fun rc a => ?_) (by omega) rfl
      · obtain ⟨m, hm⟩ : ∃ m, m = k + 1 + i := ⟨_, rfl⟩
        have hmP : m < nP w := by omega
        have hb := (hR.1.pl hk).2.2.2
        have hb2 := (hR.1.pl hmP).2.2.2
        rw [show k + 1 + (i + 1) = m + 1 from by omega, ← hm]
        simp (disch := omega) only [hR.2.1.p, hR.1.p, J_le, Nat.not_le.mpr hmP, ↓reduceIte, ix_J, J_nat, jn_s, hR.2.1.broken hk, hR.2.1.broken hmP, XtiltR hR hk, XtiltR hR hmP, bd_s, J_succ]
        unfold twC
        rcases hb with e | e <;> rcases hb2 with e2 | e2 <;> by_cases q : tiltS w k = tiltS w m <;> simp [e, e2, q, bd_s]
      · simp (disch := omega) only [hR.2.1.p, hR.1.p, J_le, show nP w ≤ k + 1 + (nP w - (k + 1)) from by omega, ↓reduceIte]
    simp (disch := omega) only [hR.2.1.p, hR.1.p, J_le, Nat.not_le.mpr hk, ↓reduceIte, nm_s, J_succ] at inner ⊢
    rw [inner _ rfl, bd_s]
  · simp (disch := omega) only [hR.2.1.p, hR.1.p, J_le, Nat.le_refl, ↓reduceIte]
theorem twinsR {n : Nat} (hn : 5000 < n) {V : St} (hI : WInv (V 1)) : m_X12_twins n V = some (sumN (fun a => sumN (fun b => twC (V 1) a b) a) (nP (V 1)), su V 0 0 0) := by
  unfold m_X12_twins
  rw [nm_s]
  rw [← su01 V 0] at hI ⊢
  generalize su V 0 0 0 = u at hI ⊢
  have h5 := hI.p5
  refine lp_fold (fun k a => (a, J k)) (fun k a => a + sumN (fun i => twC (u 1) k i) k) (fun a => (a, u)) 0 (nP (u 1)) (fun rc k a hk => ?_) (fun rc a => ?_) (by omega) rfl
  · simp (disch := omega) only [planks_s, hI.p, bd_s, J_le, Nat.not_le.mpr hk, ↓reduceIte, J_succ]
    rw [← sumN_acc]
    refine (congrArg (fun x => bd x _) (lp_fold (fun i a => (a, J i)) (fun i a => a + twC (u 1) k i) (fun a => a) a k (fun rc i a hi => ?_) (fun rc a => ?_) (by omega) rfl)).trans (bd_s _ _)
    · have hb := (hI.pl hk).2.2.2
      have hb2 := (hI.pl (p := i) (by omega)).2.2.2
      simp (disch := omega) only [J_le, Nat.not_le.mpr hi, ↓reduceIte, jn_s, isBroken_s, tiltOf_s hn u hI, bd_s, J_succ, nm_s]
      unfold twC b2i
      rcases hb with e | e <;> rcases hb2 with e2 | e2 <;> by_cases q : tiltS (u 1) k = tiltS (u 1) i <;> simp [e, e2, q, bd_s]
    · simp (disch := omega) only [J_le, Nat.le_refl, ↓reduceIte]
  · simp (disch := omega) only [planks_s, hI.p, bd_s, J_le, Nat.le_refl, ↓reduceIte]
theorem alikeX {n : Nat} (hn : 5000 < n) {v0 v : St} {w : Nat → Int32} (hR : HR v w) : m_X11_alike n v0 v = some (sumN (fun a => sumN (fun k => alC w a (a + 1 + k)) (2 * nP w - (a + 1))) (2 * nP w)) := by
  have h5 := hR.1.p5
  unfold m_X11_alike
  refine lp_fold (fun k a => (a, J k)) (fun k a => a + sumN (fun i => alC w k (k + 1 + i)) (2 * nP w - (k + 1))) (fun a => a) 0 (2 * nP w) (fun rc k a hk => ?_) (fun rc a => ?_) (by omega) rfl
  · simp (disch := omega) only [Xhouses hR.1 hR.2.1, bd_s, J_le, Nat.not_le.mpr hk, ↓reduceIte, nm_s, J_succ]
    rw [← sumN_acc]
    refine (congrArg (fun x => bd x _) (lp_fold (fun i a => (a, J (k + 1 + i))) (fun i a => a + alC w k (k + 1 + i)) (fun a => a) a (2 * nP w - (k + 1)) (fun rc i a hi => ?_) (fun rc a => ?_) (by omega) rfl)).trans (bd_s _ _)
    · obtain ⟨m, hm⟩ : ∃ m, m = k + 1 + i := ⟨_, rfl⟩
      have hmP : m < 2 * nP w := by omega
      rw [show k + 1 + (i + 1) = m + 1 from by omega, ← hm]
      simp (disch := omega) only [Xhouses hR.1 hR.2.1, bd_s, J_le, Nat.not_le.mpr hmP, ↓reduceIte, ix_J, J_nat, (hR.2.2 _ hk).1, (hR.2.2 _ hmP).1, (hR.2.2 _ hk).2, (hR.2.2 _ hmP).2, J_succ]
      unfold alC
      by_cases q : loadS w k = loadS w m <;> by_cases q2 : heightS w k = heightS w m <;> simp [q, q2, bd_s]
    · simp (disch := omega) only [Xhouses hR.1 hR.2.1, bd_s, J_le, show 2 * nP w ≤ k + 1 + (2 * nP w - (k + 1)) from by omega, ↓reduceIte]
  · simp (disch := omega) only [Xhouses hR.1 hR.2.1, bd_s, J_le, Nat.le_refl, ↓reduceIte]
theorem alikeR {n : Nat} (hn : 5000 < n) {V : St} (hI : WInv (V 1)) : m_X12_alike n V = some (sumN (fun a => sumN (fun b => alC (V 1) a b) a) (2 * nP (V 1)), su V 0 0 0) := by
  unfold m_X12_alike
  rw [nm_s]
  rw [← su01 V 0] at hI ⊢
  generalize su V 0 0 0 = u at hI ⊢
  have h5 := hI.p5
  refine lp_fold (fun k a => (a, J k)) (fun k a => a + sumN (fun i => alC (u 1) k i) k) (fun a => (a, u)) 0 (2 * nP (u 1)) (fun rc k a hk => ?_) (fun rc a => ?_) (by omega) rfl
  · simp (disch := omega) only [houses_s n u hI.p, bd_s, J_le, Nat.not_le.mpr hk, ↓reduceIte, J_succ]
    rw [← sumN_acc]
    refine (congrArg (fun x => bd x _) (lp_fold (fun i a => (a, J i)) (fun i a => a + alC (u 1) k i) (fun a => a) a k (fun rc i a hi => ?_) (fun rc a => ?_) (by omega) rfl)).trans (bd_s _ _)
    · simp (disch := omega) only [J_le, Nat.not_le.mpr hi, ↓reduceIte, jn_s, loadOf_s hn u hI, heightOf_s hn u hI, bd_s, J_succ, nm_s]
      unfold alC
      by_cases q : loadS (u 1) k = loadS (u 1) i <;> by_cases q2 : heightS (u 1) k = heightS (u 1) i <;> simp [q, q2, bd_s]
    · simp (disch := omega) only [J_le, Nat.le_refl, ↓reduceIte]
  · simp (disch := omega) only [houses_s n u hI.p, bd_s, J_le, Nat.le_refl, ↓reduceIte]
-- rich, heaviest, dearest
def richS (w : Nat → Int32) : Int32 := (amax (fun _ => true) (fun h => w (32 + 2 * h) + woI w (J h)) (2 * nP w)).1
theorem richX {n : Nat} (hn : 5000 < n) {v0 v : St} {w : Nat → Int32} (hR : HR v w) : m_X11_rich n v0 v = some (richS w) := by
  have h5 := hR.1.p5
  unfold m_X11_rich richS amax
  refine lp_fold (fun k (a : Int32 × Int32) => (a.1, a.2, J k)) _ (fun a => a.1) (-1, -1) (2 * nP w) (fun rc k a hk => ?_) (fun rc a => ?_) (by omega) rfl
  · simp (disch := omega) only [Xhouses hR.1 hR.2.1, bd_s, J_le, Nat.not_le.mpr hk, ↓reduceIte, ix_J, J_nat, XworthIn hn hR.1 hR.2.1, hR.2.1.purse hk, nm_s, J_succ]
    by_cases q : w (32 + 2 * k) + woI w (J k) ≤ a.2 <;> simp only [q, ↓reduceIte, bd_s]
  · simp (disch := omega) only [Xhouses hR.1 hR.2.1, bd_s, J_le, Nat.le_refl, ↓reduceIte]
theorem x_max_le {a b : Int32} (h : b ≤ a) : x_max a b = a := by unfold x_max; rw [if_neg (by grind)]
theorem x_max_gt {a b : Int32} (h : ¬ b ≤ a) : x_max a b = b := by unfold x_max; rw [if_pos (by grind)]
theorem x_min_le {a b : Int32} (h : a ≤ b) : x_min a b = a := by unfold x_min; rw [if_neg (by grind)]
theorem x_min_gt {a b : Int32} (h : ¬ a ≤ b) : x_min a b = b := by unfold x_min; rw [if_pos (by grind)]
theorem richR {n : Nat} (hn : 5000 < n) {V : St} (hI : WInv (V 1)) : m_X12_rich n V = some (richS (V 1), su V 0 0 0) := by
  unfold m_X12_rich richS amax
  rw [nm_s]
  rw [← su01 V 0] at hI ⊢
  generalize su V 0 0 0 = u at hI ⊢
  have h5 := hI.p5
  refine lp_fold (fun k (a : Int32 × Int32) => (a.1, a.2, J k)) _ (fun a => (a.1, u)) (-1, -1) (2 * nP (u 1)) (fun rc k a hk => ?_) (fun rc a => ?_) (by omega) rfl
  · simp (disch := omega) only [houses_s n u hI.p, bd_s, J_le, Nat.not_le.mpr hk, ↓reduceIte, of_0, thingsIn_s hn u _ hI.t hI.t10, worthOf_s hn u _ hI.t hI.t10, woS_in _ _ hI.t10, nm_s, J_succ]
    by_cases q : u 1 (32 + 2 * k) + woI (u 1) (J k) ≤ a.2
    · simp only [q, ↓reduceIte, bd_s, x_max_le q]
    · simp only [q, ↓reduceIte, bd_s, x_max_gt q]
  · simp (disch := omega) only [houses_s n u hI.p, bd_s, J_le, Nat.le_refl, ↓reduceIte]
def heavS (w : Nat → Int32) : Int32 := (amax (fun t => decide (¬ w (54 + 3 * t) = -1)) (fun t => w (52 + 3 * t)) (nT w)).1
def dearS (w : Nat → Int32) (h : Int32) : Int32 := (amax (fun t => decide (w (54 + 3 * t) = h)) (fun t => w (53 + 3 * t)) (nT w)).1
theorem heavX {n : Nat} (hn : 5000 < n) {v0 v : St} {w : Nat → Int32} (hR : HR v w) : m_X11_heaviest n v0 v = some (heavS w) := by
  have h5 := hR.1.t10
  unfold m_X11_heaviest heavS amax
  refine lp_fold (fun k (a : Int32 × Int32) => (a.1, a.2, J k)) _ (fun a => a.1) (-1, -1) (nT w) (fun rc k a hk => ?_) (fun rc a => ?_) (by omega) rfl
  · simp (disch := omega) only [hR.2.1.t, hR.1.t, bd_s, J_le, Nat.not_le.mpr hk, ↓reduceIte, ix_J, J_nat, hR.2.1.home hk, hR.2.1.weight hk, nm_s, J_succ]
    by_cases e : w (54 + 3 * k) = -1
    · simp [e, bd_s]
    · by_cases q : w (52 + 3 * k) ≤ a.2 <;> simp [e, q, bd_s]
  · simp (disch := omega) only [hR.2.1.t, hR.1.t, J_le, Nat.le_refl, ↓reduceIte]
theorem dearX {n : Nat} (hn : 5000 < n) {v : St} {w : Nat → Int32} (hI : WInv w) (hB : HB v w) (x : Int32) : m_X3_dearestIn n v x = some (if x = -1 then -1 else dearS w x) := by
  have h5 := hI.t10
  unfold m_X3_dearestIn
  by_cases hx : x = -1
  · rw [if_pos hx]
    refine lp_fold (fun k (a : Int32 × Int32) => (a.1, a.2, J k)) (fun k a => a) (fun a => a.1) (-1, -1) (nT w) (fun rc k a hk => ?_) (fun rc a => ?_) (by omega) rfl |>.trans ?_
    · simp (disch := omega) only [hB.t, hI.t, hx, bd_s, J_le, Nat.not_le.mpr hk, ↓reduceIte, J_succ]
    · simp (disch := omega) only [hB.t, hI.t, J_le, Nat.le_refl, ↓reduceIte]
    · have : ∀ N, foldN (fun (_ : Nat) (a : Int32 × Int32) => a) (-1, -1) N = (-1, -1) := fun N => by
        induction N with
        | zero => rfl
        | succ N ih => exact ih
      rw [this]
  · rw [if_neg hx]
    unfold dearS amax
    refine lp_fold (fun k (a : Int32 × Int32) => (a.1, a.2, J k)) _ (fun a => a.1) (-1, -1) (nT w) (fun rc k a hk => ?_) (fun rc a => ?_) (by omega) rfl
    · simp (disch := omega) only [hB.t, hI.t, hx, bd_s, J_le, Nat.not_le.mpr hk, ↓reduceIte, ix_J, J_nat, hB.home hk, hB.worth hk, nm_s, J_succ]
      by_cases e : w (54 + 3 * k) = x
      · by_cases q : w (53 + 3 * k) ≤ a.2 <;> simp [e, q, bd_s]
      · simp [e, bd_s]
    · simp (disch := omega) only [hB.t, hI.t, J_le, Nat.le_refl, ↓reduceIte]
theorem inB_nn {x : Int32} {a b : Nat} (h : inB x a b) (hb : b < 2147483648) : ¬ x ≤ -1 := by
  obtain ⟨k, rfl, h1, h2⟩ := h
  have := J_nn (k := k) (by omega)
  grind
theorem heavR {n : Nat} (hn : 5000 < n) {V : St} (hI : WInv (V 1)) : m_X12_heaviest n V = some (heavS (V 1), su V 0 0 0) := by
  unfold m_X12_heaviest heavS
  rw [nm_s]
  rw [← su01 V 0] at hI ⊢
  generalize su V 0 0 0 = u at hI ⊢
  have h5 := hI.t10
  refine lp_seq (fun k => ((amax (fun t => decide (¬ u 1 (54 + 3 * t) = -1)) (fun t => u 1 (52 + 3 * t)) k).1, J k)) (nT (u 1)) (fun rc k hk => ?_) (fun rc => ?_) (by omega) rfl
  · have hi := amax_inv (fun t => decide (¬ u 1 (54 + 3 * t) = -1)) (fun t => u 1 (52 + 3 * t)) k
    have hw := inB_nn (hI.th hk).1 (by omega)
    rw [amax_succ]
    generalize amax (fun t => decide (¬ u 1 (54 + 3 * t) = -1)) (fun t => u 1 (52 + 3 * t)) k = a at hi ⊢
    simp (disch := omega) only [things_s, hI.t, bd_s, J_le, Nat.not_le.mpr hk, ↓reduceIte, isGone_s, ofThing_0, jn_s, J_succ]
    by_cases e : u 1 (54 + 3 * k) = -1
    · simp [b2i, e, bd_s]
    · rcases hi with ⟨e1, e2⟩ | ⟨j, hj, e1, e2, -⟩
      · simp [b2i, e, bd_s, e1, e2, hw]
      · have hne := J_ne_neg (k := j) (by omega)
        simp only [e1, e2, hne, ↓reduceIte, ofThing_0 n u (p := j) (by omega), bd_s]
        by_cases q : u 1 (52 + 3 * k) ≤ u 1 (52 + 3 * j) <;> simp [b2i, e, q, bd_s, e1]
  · simp (disch := omega) only [things_s, hI.t, bd_s, J_le, Nat.le_refl, ↓reduceIte]
theorem dearR {n : Nat} (hn : 5000 < n) {u : St} (hI : WInv (u 1)) (x : Int32) : m_X12_dearestIn n u x = some (dearS (u 1) x) := by
  unfold m_X12_dearestIn dearS
  have h5 := hI.t10
  refine lp_seq (fun k => ((amax (fun t => decide (u 1 (54 + 3 * t) = x)) (fun t => u 1 (53 + 3 * t)) k).1, J k)) (nT (u 1)) (fun rc k hk => ?_) (fun rc => ?_) (by omega) rfl
  · have hi := amax_inv (fun t => decide (u 1 (54 + 3 * t) = x)) (fun t => u 1 (53 + 3 * t)) k
    have hw := inB_nn (hI.th hk).2.1 (by omega)
    rw [amax_succ]
    generalize amax (fun t => decide (u 1 (54 + 3 * t) = x)) (fun t => u 1 (53 + 3 * t)) k = a at hi ⊢
    simp (disch := omega) only [things_s, hI.t, bd_s, J_le, Nat.not_le.mpr hk, ↓reduceIte, ofThing_2, ofThing_1, jn_s, J_succ]
    by_cases e : u 1 (54 + 3 * k) = x
    · rcases hi with ⟨e1, e2⟩ | ⟨j, hj, e1, e2, -⟩
      · simp [e, bd_s, e1, e2, hw]
      · have hne := J_ne_neg (k := j) (by omega)
        simp only [e1, e2, hne, ↓reduceIte, ofThing_1 n u (p := j) (by omega), bd_s]
        by_cases q : u 1 (53 + 3 * k) ≤ u 1 (53 + 3 * j) <;> simp [e, q, bd_s, e1]
    · simp [e, bd_s]
  · simp (disch := omega) only [things_s, hI.t, bd_s, J_le, Nat.le_refl, ↓reduceIte]
end PQ1
