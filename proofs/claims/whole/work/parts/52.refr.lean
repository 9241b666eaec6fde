section PREFR
/-- the row of the reference, its meaning: how many planks, things -/
def nP (w : Nat → Int32) : Nat := (w 0).toNatClampNeg
def nT (w : Nat → Int32) : Nat := (w 1).toNatClampNeg
def inB (x : Int32) (a b : Nat) : Prop := ∃ k, x = J k ∧ a ≤ k ∧ k ≤ b
/-- what holds of each row -/
def WInv (w : Nat → Int32) : Prop :=
  (w 0 = J (nP w) ∧ nP w ≤ 5) ∧ (w 1 = J (nT w) ∧ nT w ≤ 10) ∧ inB (w 6) 1 40 ∧ inB (w 5) 0 99 ∧
  (∀ p, p < nP w → inB (w (12 + 4 * p)) 10 400 ∧ inB (w (13 + 4 * p)) 0 99 ∧ isb (w (14 + 4 * p)) ∧ isb (w (15 + 4 * p))) ∧
  (∀ h, h < 2 * nP w → inB (w (33 + 2 * h)) 0 9) ∧
  (∀ t, t < nT w → inB (w (52 + 3 * t)) 1 60 ∧ inB (w (53 + 3 * t)) 0 99 ∧ (w (54 + 3 * t) = -1 ∨ ∃ h, w (54 + 3 * t) = J h ∧ h < 2 * nP w))
theorem nP_J {k : Nat} (h : k < 2147483648) {w : Nat → Int32} (e : w 0 = J k) : nP w = k := by unfold nP; rw [e, J_nat h]
theorem nT_J {k : Nat} (h : k < 2147483648) {w : Nat → Int32} (e : w 1 = J k) : nT w = k := by unfold nT; rw [e, J_nat h]
-- readers
theorem J_succ (k : Nat) : J k + 1 = J (k + 1) := J_add k 1
theorem J_dbl (k : Nat) : 2 * J k = J (2 * k) := J_mul 2 k
theorem J_dbl1 (k : Nat) : J (2 * k) + 1 = J (2 * k + 1) := J_add _ 1
theorem ix_J {k n : Nat} (h : k < n) (hk : k < 2147483648) : ix (J k) n ↔ True := iff_true_intro (J_ix h hk)
theorem plankAt_s (n p f : Nat) : m_X12_plankAt n (J p) (J f) = some (J (12 + 4 * p + f)) := by
  unfold m_X12_plankAt
  show some ((J 12 + J 4 * J p) + J f) = _
  rw [J_mul, J_add, J_add]
theorem houseAt_s (n p f : Nat) : m_X12_houseAt n (J p) (J f) = some (J (32 + 2 * p + f)) := by
  unfold m_X12_houseAt
  show some ((J 32 + J 2 * J p) + J f) = _
  rw [J_mul, J_add, J_add]
theorem thingAt_s (n p f : Nat) : m_X12_thingAt n (J p) (J f) = some (J (52 + 3 * p + f)) := by
  unfold m_X12_thingAt
  show some ((J 52 + J 3 * J p) + J f) = _
  rw [J_mul, J_add, J_add]
theorem planks_s (n : Nat) (V : St) : m_X12_planks n V = some (V 1 0) := rfl
theorem things_s (n : Nat) (V : St) : m_X12_things n V = some (V 1 1) := rfl
theorem houses_s (n : Nat) (V : St) (h : V 1 0 = J (nP (V 1))) : m_X12_houses n V = some (J (2 * nP (V 1))) := by
  unfold m_X12_houses; rw [planks_s, bd_s, h, J_dbl]
theorem ofPlank_s (n : Nat) (V : St) {p f : Nat} (h : 12 + 4 * p + f < 2080) : m_X12_ofPlank n V (J p) (J f) = some (V 1 (12 + 4 * p + f)) := by
  unfold m_X12_ofPlank
  rw [plankAt_s, bd_s, if_pos (J_ix h (by omega)), J_nat (by omega)]
theorem of_s (n : Nat) (V : St) {p f : Nat} (h : 32 + 2 * p + f < 2080) : m_X12_of n V (J p) (J f) = some (V 1 (32 + 2 * p + f)) := by
  unfold m_X12_of
  rw [houseAt_s, bd_s, if_pos (J_ix h (by omega)), J_nat (by omega)]
theorem ofThing_s (n : Nat) (V : St) {p f : Nat} (h : 52 + 3 * p + f < 2080) : m_X12_ofThing n V (J p) (J f) = some (V 1 (52 + 3 * p + f)) := by
  unfold m_X12_ofThing
  rw [thingAt_s, bd_s, if_pos (J_ix h (by omega)), J_nat (by omega)]
theorem plankAt_0 (n p : Nat) : m_X12_plankAt n (J p) 0 = some (J (12 + 4 * p)) := plankAt_s n p 0
theorem plankAt_1 (n p : Nat) : m_X12_plankAt n (J p) 1 = some (J (13 + 4 * p)) := (plankAt_s n p 1).trans (by rw [show 12 + 4 * p + 1 = 13 + 4 * p from by omega])
theorem plankAt_2 (n p : Nat) : m_X12_plankAt n (J p) 2 = some (J (14 + 4 * p)) := (plankAt_s n p 2).trans (by rw [show 12 + 4 * p + 2 = 14 + 4 * p from by omega])
theorem plankAt_3 (n p : Nat) : m_X12_plankAt n (J p) 3 = some (J (15 + 4 * p)) := (plankAt_s n p 3).trans (by rw [show 12 + 4 * p + 3 = 15 + 4 * p from by omega])
theorem houseAt_0 (n p : Nat) : m_X12_houseAt n (J p) 0 = some (J (32 + 2 * p)) := houseAt_s n p 0
theorem houseAt_1 (n p : Nat) : m_X12_houseAt n (J p) 1 = some (J (33 + 2 * p)) := (houseAt_s n p 1).trans (by rw [show 32 + 2 * p + 1 = 33 + 2 * p from by omega])
theorem thingAt_0 (n p : Nat) : m_X12_thingAt n (J p) 0 = some (J (52 + 3 * p)) := thingAt_s n p 0
theorem thingAt_1 (n p : Nat) : m_X12_thingAt n (J p) 1 = some (J (53 + 3 * p)) := (thingAt_s n p 1).trans (by rw [show 52 + 3 * p + 1 = 53 + 3 * p from by omega])
theorem thingAt_2 (n p : Nat) : m_X12_thingAt n (J p) 2 = some (J (54 + 3 * p)) := (thingAt_s n p 2).trans (by rw [show 52 + 3 * p + 2 = 54 + 3 * p from by omega])
theorem ofPlank_0 (n : Nat) (V : St) {p : Nat} (h : p < 5) : m_X12_ofPlank n V (J p) 0 = some (V 1 (12 + 4 * p)) := ofPlank_s n V (f := 0) (by omega)
theorem ofPlank_1 (n : Nat) (V : St) {p : Nat} (h : p < 5) : m_X12_ofPlank n V (J p) 1 = some (V 1 (13 + 4 * p)) := (ofPlank_s n V (f := 1) (by omega)).trans (by rw [show 12 + 4 * p + 1 = 13 + 4 * p from by omega])
theorem ofPlank_2 (n : Nat) (V : St) {p : Nat} (h : p < 5) : m_X12_ofPlank n V (J p) 2 = some (V 1 (14 + 4 * p)) := (ofPlank_s n V (f := 2) (by omega)).trans (by rw [show 12 + 4 * p + 2 = 14 + 4 * p from by omega])
theorem ofPlank_3 (n : Nat) (V : St) {p : Nat} (h : p < 5) : m_X12_ofPlank n V (J p) 3 = some (V 1 (15 + 4 * p)) := (ofPlank_s n V (f := 3) (by omega)).trans (by rw [show 12 + 4 * p + 3 = 15 + 4 * p from by omega])
theorem of_0 (n : Nat) (V : St) {p : Nat} (h : p < 10) : m_X12_of n V (J p) 0 = some (V 1 (32 + 2 * p)) := of_s n V (f := 0) (by omega)
theorem of_1 (n : Nat) (V : St) {p : Nat} (h : p < 10) : m_X12_of n V (J p) 1 = some (V 1 (33 + 2 * p)) := (of_s n V (f := 1) (by omega)).trans (by rw [show 32 + 2 * p + 1 = 33 + 2 * p from by omega])
theorem ofThing_0 (n : Nat) (V : St) {p : Nat} (h : p < 10) : m_X12_ofThing n V (J p) 0 = some (V 1 (52 + 3 * p)) := ofThing_s n V (f := 0) (by omega)
theorem ofThing_1 (n : Nat) (V : St) {p : Nat} (h : p < 10) : m_X12_ofThing n V (J p) 1 = some (V 1 (53 + 3 * p)) := (ofThing_s n V (f := 1) (by omega)).trans (by rw [show 52 + 3 * p + 1 = 53 + 3 * p from by omega])
theorem ofThing_2 (n : Nat) (V : St) {p : Nat} (h : p < 10) : m_X12_ofThing n V (J p) 2 = some (V 1 (54 + 3 * p)) := (ofThing_s n V (f := 2) (by omega)).trans (by rw [show 52 + 3 * p + 2 = 54 + 3 * p from by omega])
abbrev b2i (c : Prop) [Decidable c] : Int32 := if c then 1 else 0
theorem isBroken_s (n : Nat) (V : St) {p : Nat} (h : p < 5) : m_X12_isBroken n V (J p) = some (b2i (V 1 (15 + 4 * p) = 1)) := by
  unfold m_X12_isBroken; rw [ofPlank_3 n V h, bd_s]; unfold b2i; split <;> rfl
theorem isPropped_s (n : Nat) (V : St) {p : Nat} (h : p < 5) : m_X12_isPropped n V (J p) = some (b2i (V 1 (14 + 4 * p) = 1)) := by
  unfold m_X12_isPropped; rw [ofPlank_2 n V h, bd_s]; unfold b2i; split <;> rfl
theorem isGone_s (n : Nat) (V : St) {p : Nat} (h : p < 10) : m_X12_isGone n V (J p) = some (b2i (V 1 (54 + 3 * p) = -1)) := by
  unfold m_X12_isGone; rw [ofThing_2 n V h, bd_s]; unfold b2i; split <;> rfl
theorem in_s (n : Nat) (x a b : Int32) : m_X12_in n x a b = some (b2i (a ≤ x ∧ x ≤ b)) := by
  unfold m_X12_in b2i
  simp only [jn_s]
  by_cases h1 : x < a
  · rw [if_pos h1, if_neg (by grind)]
  · rw [if_neg h1]
    by_cases h2 : b < x
    · rw [if_pos h2, if_neg (by grind)]
    · rw [if_neg h2, if_pos (by grind)]
theorem holds_s (n : Nat) (x : Int32) {k : Nat} (h : k < 32) : m_X12_holds n x (J k) = some (b2i (tb x k = true)) := by
  unfold m_X12_holds b2i
  rw [shr_1 x h]
  cases tb x k <;> rfl
theorem ix_iff (x : Int32) (n : Nat) : ix x n ↔ 0 ≤ x.toInt ∧ x.toInt < n := by
  unfold ix
  rw [Int32.lt_iff_toInt_lt, show (0 : Int32).toInt = 0 from by decide]
  show _ ∧ x.toInt.toNat < n ↔ _
  omega
theorem rng_ix (x : Int32) {P : Nat} (h : P ≤ 400) : (0 ≤ x ∧ x ≤ J P - 1) ↔ ix x P := by
  have e : ∀ P : Nat, P ≤ 400 → (J P - 1).toInt = (P : Int) - 1 := by decide +kernel
  rw [ix_iff, Int32.le_iff_toInt_le, Int32.le_iff_toInt_le, e P h, show (0 : Int32).toInt = 0 from by decide]
  omega
theorem b2i_congr {c d : Prop} [Decidable c] [Decidable d] (h : c ↔ d) : b2i c = b2i d := by
  unfold b2i
  by_cases hc : c
  · rw [if_pos hc, if_pos (h.mp hc)]
  · rw [if_neg hc, if_neg (fun q => hc (h.mpr q))]
theorem nots {c : Prop} [Decidable c] : (if b2i c = 0 then some 1 else some 0 : Option Int32) = some (b2i (¬ c)) := by
  unfold b2i
  by_cases hc : c <;> simp [hc]
theorem noPlank_s (n : Nat) (V : St) (x : Int32) (h : V 1 0 = J (nP (V 1))) (h5 : nP (V 1) ≤ 5) : m_X12_noPlank n V x = some (b2i (¬ ix x (nP (V 1)))) := by
  unfold m_X12_noPlank
  rw [planks_s, bd_s, in_s, bd_s, nots, h]
  exact congrArg some (b2i_congr (not_congr (rng_ix x (by omega))))
theorem noHouse_s (n : Nat) (V : St) (x : Int32) (h : V 1 0 = J (nP (V 1))) (h5 : nP (V 1) ≤ 5) : m_X12_noHouse n V x = some (b2i (¬ ix x (2 * nP (V 1)))) := by
  unfold m_X12_noHouse
  rw [houses_s n V h, bd_s, in_s, bd_s, nots]
  exact congrArg some (b2i_congr (not_congr (rng_ix x (by omega))))
theorem noThing_s (n : Nat) (V : St) (x : Int32) (h : V 1 1 = J (nT (V 1))) (h5 : nT (V 1) ≤ 10) : m_X12_noThing n V x = some (b2i (¬ ix x (nT (V 1)))) := by
  unfold m_X12_noThing
  rw [things_s, bd_s, in_s, bd_s, nots, h]
  exact congrArg some (b2i_congr (not_congr (rng_ix x (by omega))))
theorem throwsIf_f (n : Nat) (V : St) (c : Int32) : m_X12_throwsIf n V 0 c = some (0, V) := rfl
theorem throwsIf_t (n : Nat) (V : St) (c : Int32) : m_X12_throwsIf n V 1 c = some (1, su V 0 0 c) := rfl
/-- what a house holds of the things -/
def inS (w : Nat → Int32) (h : Int32) : Int32 := setN (fun t => decide (w (54 + 3 * t) = h)) (nT w)
def wgS (w : Nat → Int32) (s : Int32) : Int32 := foldN (fun t a => a + (if tb s t then w (52 + 3 * t) else 0)) 0 (nT w)
def woS (w : Nat → Int32) (s : Int32) : Int32 := foldN (fun t a => a + (if tb s t then w (53 + 3 * t) else 0)) 0 (nT w)
/-- the weight, the worth in a house -/
def wgI (w : Nat → Int32) (h : Int32) : Int32 := foldN (fun t a => a + (if w (54 + 3 * t) = h then w (52 + 3 * t) else 0)) 0 (nT w)
def woI (w : Nat → Int32) (h : Int32) : Int32 := foldN (fun t a => a + (if w (54 + 3 * t) = h then w (53 + 3 * t) else 0)) 0 (nT w)
theorem wgS_in (w : Nat → Int32) (h : Int32) (hT : nT w ≤ 10) : wgS w (inS w h) = wgI w h := by
  unfold wgS wgI inS
  apply foldN_congr
  intro k a hk
  rw [tb_set _ _ (by omega) k (by omega)]
  simp [hk]
theorem woS_in (w : Nat → Int32) (h : Int32) (hT : nT w ≤ 10) : woS w (inS w h) = woI w h := by
  unfold woS woI inS
  apply foldN_congr
  intro k a hk
  rw [tb_set _ _ (by omega) k (by omega)]
  simp [hk]
theorem thingsIn_s {n : Nat} (hn : 5000 < n) (V : St) (x : Int32) (h1 : V 1 1 = J (nT (V 1))) (hT : nT (V 1) ≤ 10) : m_X12_thingsIn n V x = some (inS (V 1) x) := by
  unfold m_X12_thingsIn inS setN
  refine lp_fold (fun k a => (a, J k)) _ (fun a => a) 0 (nT (V 1)) (fun rc k a hk => ?_) (fun rc a => ?_) (by omega) rfl
  · simp (disch := omega) only [things_s, bd_s, h1, J_le, Nat.not_le.mpr hk, ↓reduceIte, ofThing_2, nm_s, J_succ]
    by_cases e : V 1 (54 + 3 * k) = x
    · simp only [e, ↓reduceIte, bd_s, decide_true]
    · simp only [e, ↓reduceIte, bd_s, decide_false, Int32.or_zero, Bool.false_eq_true]
  · simp (disch := omega) only [things_s, bd_s, h1, J_le, Nat.le_refl, ↓reduceIte]
theorem weightOf_s {n : Nat} (hn : 5000 < n) (V : St) (x : Int32) (h1 : V 1 1 = J (nT (V 1))) (hT : nT (V 1) ≤ 10) : m_X12_weightOf n V x = some (wgS (V 1) x) := by
  unfold m_X12_weightOf wgS
  refine lp_fold (fun k a => (a, J k)) _ (fun a => a) 0 (nT (V 1)) (fun rc k a hk => ?_) (fun rc a => ?_) (by omega) rfl
  · simp (disch := omega) only [things_s, bd_s, h1, J_le, Nat.not_le.mpr hk, ↓reduceIte, ofThing_0, nm_s, J_succ, holds_s]
    cases tb x k <;> rfl
  · simp (disch := omega) only [things_s, bd_s, h1, J_le, Nat.le_refl, ↓reduceIte]
theorem worthOf_s {n : Nat} (hn : 5000 < n) (V : St) (x : Int32) (h1 : V 1 1 = J (nT (V 1))) (hT : nT (V 1) ≤ 10) : m_X12_worthOf n V x = some (woS (V 1) x) := by
  unfold m_X12_worthOf woS
  refine lp_fold (fun k a => (a, J k)) _ (fun a => a) 0 (nT (V 1)) (fun rc k a hk => ?_) (fun rc a => ?_) (by omega) rfl
  · simp (disch := omega) only [things_s, bd_s, h1, J_le, Nat.not_le.mpr hk, ↓reduceIte, ofThing_1, nm_s, J_succ, holds_s]
    cases tb x k <;> rfl
  · simp (disch := omega) only [things_s, bd_s, h1, J_le, Nat.le_refl, ↓reduceIte]
/-- LOAD, TILT, HEIGHT -/
def loadS (w : Nat → Int32) (h : Nat) : Int32 := wgI w (J h) + 5 * w (33 + 2 * h) + w 5
def leanS (st d : Int32) : Int32 := x_max (-5) (x_min 5 (d / st))
def tiltS (w : Nat → Int32) (p : Nat) : Int32 := if w (14 + 4 * p) = 1 then 0 else leanS (w 6) (loadS w (2 * p + 1) - loadS w (2 * p))
def heightS (w : Nat → Int32) (h : Nat) : Int32 := if w (15 + 4 * (h / 2)) = 1 then 0 else if h % 2 = 0 then 5 + tiltS w (h / 2) else 5 - tiltS w (h / 2)
theorem step_ne {x : Int32} {a b : Nat} (h : inB x a b) (ha : 0 < a) (hb : b < 2147483648) : ¬ x = 0 := by
  obtain ⟨k, rfl, h1, h2⟩ := h
  rw [show (0 : Int32) = J 0 from rfl, J_inj (by omega) (by omega)]; omega
theorem loadOf_s {n : Nat} (hn : 5000 < n) (V : St) (hI : WInv (V 1)) {h : Nat} (hh : h < 10) : m_X12_loadOf n V (J h) = some (loadS (V 1) h) := by
  unfold m_X12_loadOf loadS
  rw [thingsIn_s hn V _ hI.2.1.1 hI.2.1.2, bd_s, weightOf_s hn V _ hI.2.1.1 hI.2.1.2, bd_s, of_1 n V hh, bd_s, wgS_in _ _ hI.2.1.2]
theorem tiltBy_s (n : Nat) (V : St) (hI : WInv (V 1)) (x : Int32) : m_X12_tiltBy n V x = some (leanS (V 1 6) x) := by
  unfold m_X12_tiltBy
  rw [if_pos (step_ne hI.2.2.1 (by omega) (by omega))]; rfl
theorem tiltOf_s {n : Nat} (hn : 5000 < n) (V : St) (hI : WInv (V 1)) {p : Nat} (hp : p < 5) : m_X12_tiltOf n V (J p) = some (tiltS (V 1) p) := by
  unfold m_X12_tiltOf tiltS
  rw [isPropped_s n V hp, bd_s]
  by_cases h : V 1 (14 + 4 * p) = 1
  · simp only [b2i, h, ↓reduceIte]; rfl
  · simp (disch := omega) only [b2i, h, ↓reduceIte, J_dbl, J_dbl1, loadOf_s hn V hI, bd_s, tiltBy_s n V hI]
theorem plankOf_s (n : Nat) {h : Nat} (hh : h < 10) : m_X12_plankOf n (J h) = some (J (h / 2)) := by
  have : ∀ h : Nat, h < 10 → J h / 2 = J (h / 2) := by decide +kernel
  unfold m_X12_plankOf; rw [this h hh]
theorem rem2 {h : Nat} (hh : h < 10) : x_rem (J h) 2 = J (h % 2) := by
  have : ∀ h : Nat, h < 10 → x_rem (J h) 2 = J (h % 2) := by decide +kernel
  exact this h hh
theorem rem2_0 {h : Nat} (hh : h < 10) : x_rem (J h) 2 = 0 ↔ h % 2 = 0 := by
  have : ∀ h : Nat, h < 10 → (x_rem (J h) 2 = 0 ↔ h % 2 = 0) := by decide +kernel
  exact this h hh
theorem heightBy_s (n : Nat) {h : Nat} (hh : h < 10) (x : Int32) : m_X12_heightBy n (J h) x = some (if h % 2 = 0 then 5 + x else 5 - x) := by
  unfold m_X12_heightBy
  by_cases e : h % 2 = 0 <;> simp only [rem2_0 hh, e, ↓reduceIte]
theorem heightOf_s {n : Nat} (hn : 5000 < n) (V : St) (hI : WInv (V 1)) {h : Nat} (hh : h < 10) : m_X12_heightOf n V (J h) = some (heightS (V 1) h) := by
  unfold m_X12_heightOf heightS
  simp (disch := omega) only [plankOf_s, bd_s, isBroken_s, tiltOf_s hn V hI, heightBy_s]
  by_cases e : V 1 (15 + 4 * (h / 2)) = 1
  · simp only [b2i, e, ↓reduceIte]; rfl
  · simp only [b2i, e, ↓reduceIte]
theorem isLevel_s {n : Nat} (hn : 5000 < n) (V : St) (hI : WInv (V 1)) {p : Nat} (hp : p < 5) : m_X12_isLevel n V (J p) = some (b2i (¬ V 1 (15 + 4 * p) = 1 ∧ tiltS (V 1) p = 0)) := by
  unfold m_X12_isLevel
  simp (disch := omega) only [bd_s, isBroken_s, tiltOf_s hn V hI, jn_s]
  by_cases e : V 1 (15 + 4 * p) = 1
  · simp only [b2i, e, ↓reduceIte]; rfl
  · by_cases e2 : tiltS (V 1) p = 0 <;> simp only [b2i, e, e2, ↓reduceIte] <;> rfl
end PREFR
