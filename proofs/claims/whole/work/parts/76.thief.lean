section PTHIEF
def itG (g : Int32) (w : Nat → Int32) (k : Nat) : Nat → Int32 := itN (fun x => stlW x g) w k
theorem itG_all {w : Nat → Int32} (hI : WInv w) (hL : LWo w) (g : Int32) : ∀ k, WInv (itG g w k) ∧ LWo (itG g w k) ∧ (∀ j, j < 52 ∨ 82 ≤ j → itG g w k j = w j)
  | 0 => ⟨hI, hL, fun _ _ => rfl⟩
  | k + 1 => by
    obtain ⟨a, b, c⟩ := itG_all hI hL g k
    exact ⟨stW_I a g, stW_L a b g, fun j hj => (stW_ne a g hj).trans (c j hj)⟩
theorem itG_LR {L : St} {w : Nat → Int32} (hI : WInv w) (hL : LR L w) (g : Int32) (k : Nat) : LR L (itG g w k) := by
  obtain ⟨a, b, c⟩ := itG_all hI hL.o g k
  exact hL.eq (fun j x y => c j (.inr (by omega))) (c 3 (.inl (by omega)))
def wkS (g : Int32) (w : Nat → Int32) (k : Nat) : Int32 := if stS (itG g w k) g = -1 then -1 else itG g w k (53 + 3 * (stS (itG g w k) g).toNatClampNeg)
theorem stW_worth {w : Nat → Int32} (hI : WInv w) (g : Int32) {t : Nat} (ht : t < 10) : stlW w g (53 + 3 * t) = w (53 + 3 * t) := by
  have h10 := hI.t10
  unfold stlW
  rcases stS_cases w g with h | ⟨s, hs, h⟩
  · rw [if_pos h]
  · rw [h, if_neg (J_ne_neg (by omega)), J_nat (by omega), upd_n _ _ _ (by omega)]
def looS (w : Nat → Int32) (m : Nat) : Int32 := sumN (fun k => if stS (itG 0 w k) 0 = -1 then 0 else wkS 0 w k) m
/-- a steal on both sides, with the worth of what was taken -/
theorem wkR {n : Nat} {w : Nat → Int32} {g : Int32} {k : Nat} {U : St} (hI : WInv (itG g w k)) (hU : U 1 = itG g w (k + 1)) {β : Type} (A : Option β) (K : Int32 → Option β) :
    (if stS (itG g w k) g = -1 then A else bd (m_X12_ofThing n U (stS (itG g w k) g) 1) K) = if stS (itG g w k) g = -1 then A else K (wkS g w k) := by
  have h10 := hI.t10
  unfold wkS
  rcases stS_cases (itG g w k) g with h | ⟨t, ht, h⟩
  · rw [if_pos h, if_pos h]
  · have hne : ¬ stS (itG g w k) g = -1 := by rw [h]; exact J_ne_neg (by omega)
    rw [if_neg hne, if_neg hne, if_neg hne, h, ofThing_1 n U (by omega), bd_s, J_nat (by omega), hU]
    show K (stlW (itG g w k) g (53 + 3 * t)) = _
    rw [stW_worth hI g (by omega)]
theorem lootR {n : Nat} (hn : 5000 < n) (V : St) (hI : WInv (V 1)) (hL : LWo (V 1)) {m : Nat} (hm : m ≤ 10) :
    Ok (bd (m_X12_keepsAll n V) (fun t5 =>
bd (lp (fun (rc8 : Int32 × Int32 × St → Option (Int32 × St)) (x8l : Int32 × Int32 × St) =>
(if (J m) ≤ x8l.2.1 then
some (x8l.1, x8l.2.2)
else
bd (m_X12_steals n x8l.2.2 0) (fun t9 =>
bd ((if t9.1 = (-1) then
some 0
else
bd (m_X12_ofThing n t9.2 t9.1 1) (fun t12 =>
some t12))) (fun (t10 : Int32) =>
nm (x8l.1 + t10) (fun x2_11 =>
rc8 (x2_11, (x8l.2.1 + 1), t9.2)))))) n (0, 0, t5)) (fun (t6 : Int32 × St) =>
bd (m_X12_bringsBack n t6.2) (fun t7 =>
some (t6.1, t7))))) (fun r => r.1 = looS (V 1) m ∧ Fr [4, 17] V r.2) := by
  rw [keepR hn, bd_s]
  refine ok_bd2 (P := fun r => r.1 = looS (V 1) m ∧ Fr [1, 17] (sA V 4 (cpN (V 1) (V 4) 382)) r.2 ∧ ∀ j, 382 ≤ j → r.2 1 j = V 1 j) ?_ ?_
  · refine ok_forE (fun k (x : St) => (looS (V 1) k, J k, x)) m (fun k x => x 1 = itG 0 (V 1) k ∧ Fr [1, 17] (sA V 4 (cpN (V 1) (V 4) 382)) x) ?_ ?_ (by omega) _ rfl ⟨keep_1 V, Fr.rfl _ _⟩
    · rintro rc k x hk ⟨hx, hf⟩ ih
      obtain ⟨a, b, c⟩ := itG_all hI hL 0 k
      simp (disch := omega) only [J_le, Nat.not_le.mpr hk, ↓reduceIte]
      refine ok_bd2 (stR hn x (by rw [hx]; exact a) (by rw [hx]; exact b) 0) ?_
      rintro ⟨t, U⟩ ⟨h1, h2, h3⟩
      dsimp only at h1 h2 h3 ⊢
      rw [hx] at h1 h2
      subst h1
      rw [wkR a (U := U) h2 (some 0) (fun t12 => some t12)]
      have e : (if stS (itG 0 (V 1) k) 0 = -1 then some 0 else some (wkS 0 (V 1) k)) = some (if stS (itG 0 (V 1) k) 0 = -1 then 0 else wkS 0 (V 1) k) := by split <;> rfl
      rw [e, bd_s, nm_s, J_succ k]
      exact ih U ⟨h2, hf.tr h3⟩
    · rintro rc x ⟨hx, hf⟩
      obtain ⟨a, b, c⟩ := itG_all hI hL 0 m
      simp (disch := omega) only [J_le, Nat.le_refl, ↓reduceIte]
      exact ok_some ⟨rfl, hf, fun j hj => by dsimp only; rw [hx]; exact c j (.inr (by omega))⟩
  rintro ⟨a, U⟩ ⟨h1, h2, h3⟩
  dsimp only at h1 h2 h3 ⊢
  rw [backR hn, bd_s]
  exact ok_some ⟨h1, keep_back h2 h3⟩
theorem wkX {w : Nat → Int32} {g : Int32} {k : Nat} {U : St} (hI : WInv (itG g w k)) (hU : HR U (itG g w (k + 1))) {β : Type} (A : Option β) (K : Int32 → Option β) :
    (if stS (itG g w k) g = -1 then A else if ix (stS (itG g w k) g) 10 then K (U 16 (stS (itG g w k) g).toNatClampNeg) else none) = if stS (itG g w k) g = -1 then A else K (wkS g w k) := by
  have h10 := hI.t10
  unfold wkS
  rcases stS_cases (itG g w k) g with h | ⟨t, ht, h⟩
  · rw [if_pos h, if_pos h]
  · have hne : ¬ stS (itG g w k) g = -1 := by rw [h]; exact J_ne_neg (by omega)
    have eT : nT (itG g w (k + 1)) = nT (itG g w k) := by
      show nT (stlW (itG g w k) g) = _
      unfold nT; rw [stW_ne hI g (.inl (by omega))]
    rw [if_neg hne, if_neg hne, if_neg hne, h, if_pos (J_ix (by omega) (by omega)), J_nat (by omega), hU.2.1.worth (by rw [eT]; exact ht)]
    show K (stlW (itG g w k) g (53 + 3 * t)) = _
    rw [stW_worth hI g (by omega)]
theorem lootX {n : Nat} (hn : 5000 < n) {v L s : St} {w : Nat → Int32} (hR : HR v w) (hL : LR L w) {m : Nat} (hm : m ≤ 10) :
    Ok (bd (m_X3_copyFrom n s v) (fun t2 =>
lp (fun (rc3 : Int32 × Int32 × St × St → Option ((Int32 × St × St) ⊕ (Nat × St × St))) (x3l : Int32 × Int32 × St × St) =>
(if (J m) ≤ x3l.2.1 then
some (Sum.inl (x3l.1, x3l.2.2.1, x3l.2.2.2))
else
bd (m_X3_stealOne n x3l.2.2.2 x3l.2.2.1 0) (fun t4 =>
bd ((if t4.1 = (-1) then
some 0
else
(if ix t4.1 10 then some (t4.2.1 16 (t4.1).toNatClampNeg) else none))) (fun (t5 : Int32) =>
nm (x3l.1 + t5) (fun x2_6 =>
rc3 (x2_6, (x3l.2.1 + 1), t4.2.2, t4.2.1)))))) n (0, 0, L, t2))) (fun r => ∃ L' s', r = Sum.inl (looS w m, L', s') ∧ Fr [6] L L') := by
  refine ok_bd2 (copyHR hn s hR) ?_
  rintro s1 hs1
  refine ok_forE (fun k (x : St × St) => (looS w k, J k, x.1, x.2)) m (fun k x => HR x.2 (itG 0 w k) ∧ Fr [6] L x.1) ?_ ?_ (by omega) (L, s1) rfl ⟨hs1, Fr.rfl _ _⟩
  · rintro rc k ⟨L', x⟩ hk ⟨hx, hf⟩ ih
    dsimp only at hx hf
    simp (disch := omega) only [J_le, Nat.not_le.mpr hk, ↓reduceIte]
    refine ok_bd2 (stX hn ((itG_LR hR.1 hL 0 k).fr hf) hx 0) ?_
    rintro ⟨t, U, L2⟩ ⟨h1, h2, h3⟩
    dsimp only at h1 h2 h3 ⊢
    subst h1
    rw [wkX hx.1 (U := U) h2 (some 0) (fun x => some x)]
    have e : (if stS (itG 0 w k) 0 = -1 then some 0 else some (wkS 0 w k)) = some (if stS (itG 0 w k) 0 = -1 then 0 else wkS 0 w k) := by split <;> rfl
    rw [e, bd_s, nm_s, J_succ k]
    exact ih (L2, U) ⟨h2, hf.tr h3⟩
  · rintro rc ⟨L', x⟩ ⟨hx, hf⟩
    simp (disch := omega) only [J_le, Nat.le_refl, ↓reduceIte]
    exact ok_some ⟨L', x, rfl, hf⟩
-- guards
def safeS (w : Nat → Int32) (g lim : Int32) (m : Nat) : Bool := allN (fun k => decide (wkS g w k ≤ lim)) m
theorem allN_succ (P : Nat → Bool) (N : Nat) : allN P (N + 1) = (allN P N && P N) := by rw [allN]
theorem safeS_succ (w : Nat → Int32) (g lim : Int32) (m : Nat) : safeS w g lim (m + 1) = (safeS w g lim m && decide (wkS g w m ≤ lim)) := allN_succ _ _
theorem itG_stop {w : Nat → Int32} {g : Int32} {k : Nat} (h : stS (itG g w k) g = -1) : ∀ d, itG g w (k + d) = itG g w k
  | 0 => rfl
  | d + 1 => by
    have ih := itG_stop h d
    show stlW (itG g w (k + d)) g = _
    rw [ih]; unfold stlW; rw [if_pos h]
theorem wk_ge {w : Nat → Int32} (hI : WInv w) (hL : LWo w) (g : Int32) (k : Nat) : -1 ≤ wkS g w k := by
  obtain ⟨a, b, c⟩ := itG_all hI hL g k
  have h10 := a.t10
  unfold wkS
  rcases stS_cases (itG g w k) g with h | ⟨t, ht, h⟩
  · rw [if_pos h]; decide
  · rw [h, if_neg (J_ne_neg (by omega)), J_nat (by omega)]
    have := inB_nn (a.th ht).2.1 (by omega)
    grind
theorem safeX {n : Nat} (hn : 5000 < n) {v0 v L s : St} {w : Nat → Int32} (hR : HR v w) (hL : LR L w) (g : Int32) {m : Nat} (hm : m ≤ 8) {lim : Int32} (hl : -1 ≤ lim) :
    Ok (m_X11_isSafe n v0 v L s g (J m) lim) (fun r => r.1 = b2 (safeS w g lim m) ∧ Fr [6] L r.2.1) := by
  unfold m_X11_isSafe
  refine ok_bd2 (copyHR hn s hR) ?_
  rintro s1 hs1
  refine ok_forE (fun k (x : St × St) => (J k, x.1, x.2)) m (fun k x => HR x.2 (itG g w k) ∧ Fr [6] L x.1 ∧ safeS w g lim k = true) ?_ ?_ (by omega) (L, s1) rfl ⟨hs1, Fr.rfl _ _, rfl⟩
  · rintro rc k ⟨L', x⟩ hk ⟨hx, hf, hs⟩ ih
    dsimp only at hx hf
    simp (disch := omega) only [J_le, Nat.not_le.mpr hk, ↓reduceIte]
    refine ok_bd2 (stX hn ((itG_LR hR.1 hL g k).fr hf) hx g) ?_
    rintro ⟨t, U, L2⟩ ⟨h1, h2, h3⟩
    dsimp only at h1 h2 h3 ⊢
    subst h1
    rw [wkX hx.1 (U := U) h2 (some (1, L2, U)) (fun x => if x ≤ lim then rc (J k + 1, L2, U) else some (0, L2, U))]
    have hall : ∀ j, j < k → wkS g w j ≤ lim := fun j hj => by have := (allN_iff _ k).mp hs j hj; simpa using this
    by_cases q : stS (itG g w k) g = -1
    · rw [if_pos q]
      refine ok_some ⟨?_, hf.tr h3⟩
      dsimp only
      have : safeS w g lim m = true := by
        refine (allN_iff _ m).mpr (fun j hj => ?_)
        rw [decide_eq_true_eq]
        by_cases hj2 : j < k
        · exact hall j hj2
        · have e := itG_stop q (j - k)
          rw [show k + (j - k) = j from by omega] at e
          unfold wkS; rw [e, if_pos q]; exact hl
      rw [this]; rfl
    · rw [if_neg q]
      by_cases q2 : wkS g w k ≤ lim
      · rw [if_pos q2, J_succ k]
        exact ih (L2, U) ⟨h2, hf.tr h3, by rw [safeS_succ, hs, decide_eq_true q2]; rfl⟩
      · rw [if_neg q2]
        refine ok_some ⟨?_, hf.tr h3⟩
        dsimp only
        have : safeS w g lim m = false := by
          rw [Bool.eq_false_iff]
          intro h
          have := (allN_iff _ m).mp h k hk
          exact q2 (by simpa using this)
        rw [this]; rfl
  · rintro rc ⟨L', x⟩ ⟨hx, hf, hs⟩
    simp (disch := omega) only [J_le, Nat.le_refl, ↓reduceIte]
    refine ok_some ⟨?_, hf⟩
    dsimp only
    rw [hs]; rfl
def worS (w : Nat → Int32) (g : Int32) (m : Nat) : Int32 := foldN (fun k a => x_max a (wkS g w k)) (-1) m
theorem worS_succ (w : Nat → Int32) (g : Int32) (m : Nat) : worS w g (m + 1) = x_max (worS w g m) (wkS g w m) := foldN_succ (fun k a => x_max a (wkS g w k)) (-1) m
theorem worS_0 (w : Nat → Int32) (g : Int32) : worS w g 0 = -1 := by unfold worS foldN; exact Eq.refl _
theorem wor_ge (w : Nat → Int32) (g : Int32) : ∀ m, -1 ≤ worS w g m
  | 0 => by rw [worS_0]; decide
  | m + 1 => by
    have := wor_ge w g m
    rw [worS_succ]
    unfold x_max; split <;> grind
theorem wor_le {w : Nat → Int32} {g lim : Int32} (hl : -1 ≤ lim) : ∀ m, worS w g m ≤ lim ↔ safeS w g lim m = true
  | 0 => by
    rw [worS_0]
    exact ⟨fun _ => rfl, fun _ => hl⟩
  | m + 1 => by
    have ih := wor_le (w := w) (g := g) hl m
    rw [worS_succ, safeS_succ, Bool.and_eq_true, ← ih, decide_eq_true_eq]
    unfold x_max
    split
    · constructor
      · intro h; exact ⟨by grind, h⟩
      · intro h; exact h.2
    · constructor
      · intro h; exact ⟨h, by grind⟩
      · intro h; exact h.1
theorem worR {n : Nat} (hn : 5000 < n) (V : St) (hI : WInv (V 1)) (hL : LWo (V 1)) (g : Int32) {m : Nat} (hm : m ≤ 8) : Ok (m_X12_worstOf n V (J m) g) (fun r => r.1 = worS (V 1) g m ∧ Fr [4, 17] V r.2) := by
  unfold m_X12_worstOf
  rw [keepR hn, bd_s]
  refine ok_bd2 (P := fun r => r.1 = worS (V 1) g m ∧ Fr [1, 17] (sA V 4 (cpN (V 1) (V 4) 382)) r.2 ∧ ∀ j, 382 ≤ j → r.2 1 j = V 1 j) ?_ ?_
  · refine ok_forE (fun k (x : St) => (worS (V 1) g k, J k, x)) m (fun k x => x 1 = itG g (V 1) k ∧ Fr [1, 17] (sA V 4 (cpN (V 1) (V 4) 382)) x) ?_ ?_ (by omega) _ rfl ⟨keep_1 V, Fr.rfl _ _⟩
    · rintro rc k x hk ⟨hx, hf⟩ ih
      obtain ⟨a, b, c⟩ := itG_all hI hL g k
      simp (disch := omega) only [J_le, Nat.not_le.mpr hk, ↓reduceIte]
      refine ok_bd2 (stR hn x (by rw [hx]; exact a) (by rw [hx]; exact b) g) ?_
      rintro ⟨t, U⟩ ⟨h1, h2, h3⟩
      dsimp only at h1 h2 h3 ⊢
      rw [hx] at h1 h2
      subst h1
      rw [wkR a (U := U) h2 (some (worS (V 1) g k)) (fun t7 => some (x_max (worS (V 1) g k) t7))]
      have e : (if stS (itG g (V 1) k) g = -1 then some (worS (V 1) g k) else some (x_max (worS (V 1) g k) (wkS g (V 1) k))) = some (worS (V 1) g (k + 1)) := by
        rw [worS_succ]
        split
        · rename_i q
          have : wkS g (V 1) k = -1 := by unfold wkS; rw [if_pos q]
          rw [this, x_max_le (wor_ge _ _ _)]
        · rfl
      rw [e, bd_s, J_succ k]
      exact ih U ⟨h2, hf.tr h3⟩
    · rintro rc x ⟨hx, hf⟩
      obtain ⟨a, b, c⟩ := itG_all hI hL g m
      simp (disch := omega) only [J_le, Nat.le_refl, ↓reduceIte]
      exact ok_some ⟨rfl, hf, fun j hj => by dsimp only; rw [hx]; exact c j (.inr (by omega))⟩
  rintro ⟨a, U⟩ ⟨h1, h2, h3⟩
  dsimp only at h1 h2 h3 ⊢
  rw [backR hn, bd_s]
  exact ok_some ⟨h1, keep_back h2 h3⟩
end PTHIEF
