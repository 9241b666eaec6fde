section PCALL
abbrev SQ : List Nat := [0, 4, 17, 18]
/-- a call that asks: the class's wrapper and the reference's method -/
def QC {α : Type} (S : List Nat) (V : St) (x : Option (Int32 × α)) (y : Option (Int32 × St)) (o : α → Nat → Int64) (P : α → Prop) : Prop :=
  ∃ c a r V', x = some (c, a) ∧ y = some (r, V') ∧ V' 0 0 = c ∧ (c = 0 → o a 0 = r.toInt64) ∧ Fr S V V' ∧ P a
theorem QC.thr {α : Type} {S : List Nat} {V : St} {c : Int32} {a : α} {r : Int32} {V' : St} {o : α → Nat → Int64} {P : α → Prop} (h0 : V' 0 0 = c) (hc : c ≠ 0) (hf : Fr S V V') (hP : P a) : QC S V (some (c, a)) (some (r, V')) o P := ⟨c, a, r, V', rfl, rfl, h0, fun q => absurd q hc, hf, hP⟩
theorem updL0 (out : Nat → Int64) (x : Int64) : vp_updL out 0 x 0 = x := by unfold vp_updL; rw [if_pos rfl]
theorem QC.ret {α : Type} {S : List Nat} {V : St} {a : α} {r : Int32} {V' : St} {o : α → Nat → Int64} {P : α → Prop} (h0 : V' 0 0 = 0) (ho : o a 0 = r.toInt64) (hf : Fr S V V') (hP : P a) : QC S V (some (0, a)) (some (r, V')) o P := ⟨0, a, r, V', rfl, rfl, h0, fun _ => ho, hf, hP⟩
theorem fr0 (V : St) (x : Int32) : Fr [0] V (su V 0 0 x) := (Fr.rfl _ _).put (by simp) _ _
theorem fr00 (V : St) (x y : Int32) : Fr [0] V (su (su V 0 0 x) 0 0 y) := (fr0 V x).put (by simp) _ _
theorem frQ {V V' : St} (h : Fr [0] V V') : Fr SQ V V' := h.mono (by simp)
theorem sm3 {x : Int32} {k : Nat} (hk : k < 2147483648) (h : 0 ≤ x ∧ x ≤ J k) : ∃ j, j ≤ k ∧ x = J j := by
  obtain ⟨j, e, -, hj⟩ := J_rng2 (a := 0) (b := k) h.1 h.2 (by omega) hk
  exact ⟨j, hj, e⟩
theorem qThing {n : Nat} (v0 : St) {v V : St} (hR : HR v (V 1)) (out : Nat → Int64) (x1 x2 : Int32) : QC SQ V (m_L_thing n v0 v out x1 x2) (m_X12_thing n V x1 x2) (fun a => a) (fun _ => True) := by
  obtain ⟨hI, hB, hW⟩ := hR
  unfold m_L_thing m_X11_thing m_X12_thing
  simp only [jn_s]
  rw [nm_s, cThing n hI hB, refT (by rw [su01]; exact hI), su01]
  by_cases hx : ix x1 (nT (V 1))
  · rw [if_pos hx, if_pos hx, bd_s, sm_l]
    obtain ⟨t, rfl, ht, -⟩ := of_ix hx
    have t10 := hI.t10
    have it : ix (J t) 10 := J_ix (by omega) (by omega)
    have e15 : (if ix (J t) 10 then some (Sum.inl (v 15 (J t).toNatClampNeg)) else none : Option (Int32 ⊕ Nat)) = some (Sum.inl (V 1 (52 + 3 * t))) := by rw [if_pos it, J_nat (by omega), hB.weight ht]
    have e16 : (if ix (J t) 10 then some (Sum.inl (v 16 (J t).toNatClampNeg)) else none : Option (Int32 ⊕ Nat)) = some (Sum.inl (V 1 (53 + 3 * t))) := by rw [if_pos it, J_nat (by omega), hB.worth ht]
    have e17 : (if ix (J t) 10 then some (Sum.inl (v 17 (J t).toNatClampNeg)) else none : Option (Int32 ⊕ Nat)) = some (Sum.inl (V 1 (54 + 3 * t))) := by rw [if_pos it, J_nat (by omega), hB.home ht]
    rw [if_pos rfl, refN, e15, e16, e17]
    dsimp only
    by_cases h2 : 0 ≤ x2 ∧ x2 ≤ 2
    · rw [if_pos h2, if_pos rfl]
      obtain ⟨j, hj, rfl⟩ := sm3 (k := 2) (by omega) h2
      rcases (by omega : j = 0 ∨ j = 1 ∨ j = 2) with rfl | rfl | rfl
      · rw [if_pos (show J 0 = 0 by rfl), bd_s, sm_l, show (J 0) = 0 from rfl, ofThing_0 n _ (by omega), bd_s, su01]
        exact QC.ret (su00 _ _) (updL0 _ _) (frQ (fr0 _ _)) trivial
      · rw [if_neg (show ¬ J 1 = 0 by decide), if_pos (show J 1 = 1 by rfl), bd_s, sm_l, show (J 1) = 1 from rfl, ofThing_1 n _ (by omega), bd_s, su01]
        exact QC.ret (su00 _ _) (updL0 _ _) (frQ (fr0 _ _)) trivial
      · rw [if_neg (show ¬ J 2 = 0 by decide), if_neg (show ¬ J 2 = 1 by decide), if_pos (show J 2 = 2 by rfl), bd_s, sm_l, show (J 2) = 2 from rfl, ofThing_2 n _ (by omega), bd_s, su01]
        exact QC.ret (su00 _ _) (updL0 _ _) (frQ (fr0 _ _)) trivial
    · rw [if_neg h2, if_neg (fun g => h2 (by rw [g]; decide)), if_neg (fun g => h2 (by rw [g]; decide)), if_neg (fun g => h2 (by rw [g]; decide)), bd_s, sm_r, if_neg (show ¬ (3 : Nat) = 2 by decide), if_pos rfl, if_neg (show ¬ ((1 : Int32) = 0) by decide)]
      exact QC.thr (su00 _ _) (by decide) (frQ (fr00 _ _ _)) trivial
  · rw [if_neg hx, if_neg hx, bd_s, sm_r, bd_s, sm_r, if_pos rfl, if_neg (show ¬ ((1 : Int32) = 0) by decide)]
    dsimp only
    exact QC.thr (su00 _ _) (by decide) (frQ (fr00 _ _ _)) trivial
theorem qBest {n : Nat} (hn : 5000 < n) (v0 : St) {v V : St} (hR : HR v (V 1)) (out : Nat → Int64) (x1 : Int32) : QC SQ V (m_L_best n v0 v out x1) (m_X12_best n V x1) (fun a => a) (fun _ => True) := by
  unfold m_L_best m_X11_best
  rw [bestR hn hR.1, cPlank n hR.1 hR.2.1]
  by_cases hx : ix x1 (nP (V 1))
  · rw [if_pos hx, if_pos hx, bd_s, sm_l]
    obtain ⟨p, rfl, hp, hp2⟩ := of_ix hx
    rw [bestX hn hR hp, bd_s, bd_s, sm_l, J_nat hp2]
    exact QC.ret (su00 _ _) (updL0 _ _) (frQ (fr0 _ _)) trivial
  · rw [if_neg hx, if_neg hx, bd_s, sm_r, bd_s, sm_r, if_pos rfl]
    exact QC.thr (su00 _ _) (by decide) (frQ (fr0 _ _)) trivial
theorem refTi {n : Nat} {u : St} (x k : Int32) {α : Type} (K : Int32 × St → Option α) : bd (m_X12_noTilt n x) (fun t => bd (m_X12_throwsIf n u t k) K) = if -5 ≤ x ∧ x ≤ 5 then K (0, u) else K (1, su u 0 0 k) := by
  unfold m_X12_noTilt
  rw [in_s, bd_s, nots, bd_s, thr_b]
  by_cases h : -5 ≤ x ∧ x ≤ 5
  · rw [if_pos h, if_neg (fun q => q h), bd_s]
  · rw [if_neg h, if_pos h, bd_s]
theorem qStand {n : Nat} (hn : 5000 < n) (v0 : St) {v V : St} (hR : HR v (V 1)) (out : Nat → Int64) (x1 x2 : Int32) : QC SQ V (m_L_stand n v0 v out x1 x2) (m_X12_stand n V x1 x2) (fun a => a) (fun _ => True) := by
  unfold m_L_stand m_X11_stand m_X12_stand
  simp only [jn_s]
  rw [nm_s, cPlank n hR.1 hR.2.1, refP (by rw [su01]; exact hR.1), su01]
  by_cases hx : ix x1 (nP (V 1))
  · rw [if_pos hx, if_pos hx, bd_s, sm_l]
    obtain ⟨p, rfl, hp, hp2⟩ := of_ix hx
    rw [if_pos rfl, cNumber, refTi]
    dsimp only
    by_cases h2 : -5 ≤ x2 ∧ x2 ≤ 5
    · rw [if_pos h2, if_pos h2, bd_s, sm_l, lsX hn hR hp, bd_s, bd_s, sm_l, if_pos rfl, lsR hn (by rw [su01]; exact hR.1) (by rw [su01]; exact hp), bd_s, su01]
      exact QC.ret (su00 _ _) (updL0 _ _) (frQ (fr0 _ _)) trivial
    · rw [if_neg h2, if_neg h2, bd_s, sm_r, bd_s, sm_r, if_neg (show ¬ (0 : Nat) = 2 by decide), if_pos rfl, if_neg (show ¬ ((1 : Int32) = 0) by decide)]
      exact QC.thr (su00 _ _) (by decide) (frQ (fr00 _ _ _)) trivial
  · rw [if_neg hx, if_neg hx, bd_s, sm_r, bd_s, sm_r, if_pos rfl, if_neg (show ¬ ((1 : Int32) = 0) by decide)]
    dsimp only
    exact QC.thr (su00 _ _) (by decide) (frQ (fr00 _ _ _)) trivial
theorem qHeave {n : Nat} (hn : 5000 < n) (v0 : St) {v V : St} (hR : HR v (V 1)) (out : Nat → Int64) (x1 x2 x3 : Int32) : QC SQ V (m_L_heave n v0 v out x1 x2 x3) (m_X12_heave n V x1 x2 x3) (fun a => a) (fun _ => True) := by
  unfold m_L_heave m_X11_heave m_X12_heave
  simp only [jn_s]
  rw [nm_s, cPlank n hR.1 hR.2.1, refP (by rw [su01]; exact hR.1), su01]
  by_cases hx : ix x1 (nP (V 1))
  · rw [if_pos hx, if_pos hx, bd_s, sm_l]
    obtain ⟨p, rfl, hp, hp2⟩ := of_ix hx
    rw [if_pos rfl, cNumber, refTi]
    dsimp only
    by_cases h2 : -5 ≤ x2 ∧ x2 ≤ 5
    · rw [if_pos h2, if_pos h2, bd_s, sm_l, lsX hn hR hp, bd_s, if_pos rfl, lsR hn (by rw [su01]; exact hR.1) (by rw [su01]; exact hp), bd_s, su01, XweightOf hn hR.1 hR.2.1, weightOf_s hn _ _ (by rw [su01]; exact hR.1.t) (by rw [su01]; exact hR.1.t10), su01]
      by_cases q1 : x3 = 0
      · simp only [if_pos q1, bd_s, sm_l, ite_self]
        exact QC.ret (su00 _ _) (updL0 _ _) (frQ (fr0 _ _)) trivial
      · by_cases q2 : lsS (V 1) p x2 1 = -1
        · rw [if_neg q1, if_pos q2, if_pos q2, bd_s, sm_l]
          exact QC.ret (su00 _ _) (updL0 _ _) (frQ (fr0 _ _)) trivial
        · rw [if_neg q1, if_neg q2, if_neg q2, if_neg q1, bd_s, bd_s, sm_l, bd_s]
          exact QC.ret (su00 _ _) (updL0 _ _) (frQ (fr0 _ _)) trivial
    · rw [if_neg h2, if_neg h2, bd_s, sm_r, bd_s, sm_r, if_neg (show ¬ (0 : Nat) = 2 by decide), if_pos rfl, if_neg (show ¬ ((1 : Int32) = 0) by decide)]
      exact QC.thr (su00 _ _) (by decide) (frQ (fr00 _ _ _)) trivial
  · rw [if_neg hx, if_neg hx, bd_s, sm_r, bd_s, sm_r, if_pos rfl, if_neg (show ¬ ((1 : Int32) = 0) by decide)]
    dsimp only
    exact QC.thr (su00 _ _) (by decide) (frQ (fr00 _ _ _)) trivial
theorem qMore {n : Nat} (hn : 5000 < n) (v0 : St) {v V : St} (hR : HR v (V 1)) (out : Nat → Int64) (x1 : Int32) : QC SQ V (m_L_more n v0 v out x1) (m_X12_more n V x1) (fun a => a) (fun _ => True) := by
  unfold m_L_more m_X11_more m_X12_more
  rw [nm_s, cPlank n hR.1 hR.2.1, refP (by rw [su01]; exact hR.1), su01]
  by_cases hx : ix x1 (nP (V 1))
  · rw [if_pos hx, if_pos hx, bd_s, sm_l]
    obtain ⟨p, rfl, hp, hp2⟩ := of_ix hx
    have p5 := hR.1.p5
    have hu : WInv ((su V 0 0 0) 1) := by rw [su01]; exact hR.1
    have i5 : ix (J p) 5 := J_ix (by omega) (by omega)
    have jd : 2 * J p = J (2 * p) := J_dbl p
    have jd1 : J (2 * p) + 1 = J (2 * p + 1) := J_succ _
    have i1 : ix (J (2 * p)) 10 := J_ix (by omega) (by omega)
    have i2 : ix (J (2 * p + 1)) 10 := J_ix (by omega) (by omega)
    unfold m_X3_bearsMore
    dsimp only
    rw [if_pos rfl, jd, jd1, if_pos i5, if_pos i5, if_pos i5, if_pos i1, if_pos i2, J_nat hp2, J_nat (by omega), J_nat (by omega), hR.2.1.broken hp, hR.2.1.bears hp, hR.2.1.age hp, (hR.2.2 (2 * p) (by omega)).1, (hR.2.2 (2 * p + 1) (by omega)).1, isBroken_s n _ (by omega), bd_s, ofPlank_0 n _ (by omega), bd_s, ofPlank_1 n _ (by omega), bd_s, loadOf_s hn _ hu (by omega), bd_s, loadOf_s hn _ hu (by omega), bd_s, su01]
    rcases (hR.1.pl hp).2.2.2 with h | h
    · rw [if_pos h, bd_s, bd_s, sm_l, if_pos (show b2i (V 1 (15 + 4 * p) = 1) = 0 from if_neg (by rw [h]; decide))]
      exact QC.ret (su00 _ _) (updL0 _ _) (frQ (fr0 _ _)) trivial
    · rw [if_neg (by rw [h]; decide), bd_s, sm_l, if_neg (show ¬ b2i (V 1 (15 + 4 * p) = 1) = 0 by rw [show b2i (V 1 (15 + 4 * p) = 1) = 1 from if_pos h]; decide)]
      exact QC.ret (su00 _ _) (updL0 _ _) (frQ (fr0 _ _)) trivial
  · rw [if_neg hx, if_neg hx, bd_s, sm_r, bd_s, sm_r, if_pos rfl, if_neg (show ¬ ((1 : Int32) = 0) by decide)]
    dsimp only
    exact QC.thr (su00 _ _) (by decide) (frQ (fr00 _ _ _)) trivial
theorem qBallast {n : Nat} (hn : 5000 < n) (v0 : St) {v V : St} (hR : HR v (V 1)) (out : Nat → Int64) (x1 : Int32) : QC SQ V (m_L_ballast n v0 v out x1) (m_X12_ballast n V x1) (fun a => a) (fun _ => True) := by
  unfold m_L_ballast m_X11_ballast m_X12_ballast
  rw [nm_s, cPlank n hR.1 hR.2.1, refP (by rw [su01]; exact hR.1), su01]
  by_cases hx : ix x1 (nP (V 1))
  · rw [if_pos hx, if_pos hx, bd_s, sm_l]
    obtain ⟨p, rfl, hp, hp2⟩ := of_ix hx
    dsimp only
    rw [if_pos rfl, balX hn hR hp, bd_s, bd_s, sm_l, balR hn (u := su V 0 0 0) (by rw [su01]; exact hR.1) (by rw [su01]; exact hp), su01]
    exact QC.ret (su00 _ _) (updL0 _ _) (frQ (fr0 _ _)) trivial
  · rw [if_neg hx, if_neg hx, bd_s, sm_r, bd_s, sm_r, if_pos rfl, if_neg (show ¬ ((1 : Int32) = 0) by decide)]
    dsimp only
    exact QC.thr (su00 _ _) (by decide) (frQ (fr00 _ _ _)) trivial
end PCALL
