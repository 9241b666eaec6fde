section PUPD
theorem HB.u_seed {v : St} {w : Nat → Int32} (hI : WInv w) (hB : HB v w) (x : Int32) : HB (su v 8 0 x) (upd w 11 x) := by
  have h5 := hI.p5
  have h10 := hI.t10
  have eP : nP (upd w 11 x) = nP w := by unfold nP; rw [upd_n _ _ _ (by omega)]
  have eT : nT (upd w 11 x) = nT w := by unfold nT; rw [upd_n _ _ _ (by omega)]
  unfold HB
  rw [eP, eT]
  refine ⟨?_, ?_, ?_, ?_, ?_, ?_, ?_, ?_, ?_, fun p hp => ?_, fun h hh => ?_, fun t ht => ?_⟩
  · simp (disch := omega) only [su_a, upd_a, if_pos, if_neg, if_true, if_false, eq_self_iff_true]; exact hB.p
  · simp (disch := omega) only [su_a, upd_a, if_pos, if_neg, if_true, if_false, eq_self_iff_true]; exact hB.t
  · simp (disch := omega) only [su_a, upd_a, if_pos, if_neg, if_true, if_false, eq_self_iff_true]; exact hB.snow
  · simp (disch := omega) only [su_a, upd_a, if_pos, if_neg, if_true, if_false, eq_self_iff_true]; exact hB.step
  · simp (disch := omega) only [su_a, upd_a, if_pos, if_neg, if_true, if_false, eq_self_iff_true]; exact hB.fall
  · simp (disch := omega) only [su_a, upd_a, if_pos, if_neg, if_true, if_false, eq_self_iff_true]; exact hB.thieves
  · simp (disch := omega) only [su_a, upd_a, if_pos, if_neg, if_true, if_false, eq_self_iff_true]; exact hB.fee
  · simp (disch := omega) only [su_a, upd_a, if_pos, if_neg, if_true, if_false, eq_self_iff_true]; exact hB.week
  · simp (disch := omega) only [su_a, upd_a, if_pos, if_neg, if_true, if_false, eq_self_iff_true]
  · simp (disch := omega) only [su_a, upd_a, if_pos, if_neg, if_true, if_false, eq_self_iff_true]; exact ⟨hB.bears hp, hB.age hp, hB.prop hp, hB.broken hp⟩
  · simp (disch := omega) only [su_a, upd_a, if_pos, if_neg, if_true, if_false, eq_self_iff_true]; exact ⟨hB.purse hh, hB.guests hh⟩
  · simp (disch := omega) only [su_a, upd_a, if_pos, if_neg, if_true, if_false, eq_self_iff_true]; exact ⟨hB.weight ht, hB.worth ht, hB.home ht⟩
theorem WInv.u_seed {w : Nat → Int32} (hI : WInv w) (x : Int32) : WInv (upd w 11 x) := by
  have h5 := hI.p5
  have h10 := hI.t10
  have eP : nP (upd w 11 x) = nP w := by unfold nP; rw [upd_n _ _ _ (by omega)]
  have eT : nT (upd w 11 x) = nT w := by unfold nT; rw [upd_n _ _ _ (by omega)]
  unfold WInv
  rw [eP, eT]
  refine ⟨?_, ?_, ?_, ?_, fun p hp => ?_, fun h hh => ?_, fun t ht => ?_⟩
  · simp (disch := omega) only [su_a, upd_a, if_pos, if_neg, if_true, if_false, eq_self_iff_true]; exact hI.1
  · simp (disch := omega) only [su_a, upd_a, if_pos, if_neg, if_true, if_false, eq_self_iff_true]; exact hI.2.1
  · simp (disch := omega) only [su_a, upd_a, if_pos, if_neg, if_true, if_false, eq_self_iff_true]; exact hI.step
  · simp (disch := omega) only [su_a, upd_a, if_pos, if_neg, if_true, if_false, eq_self_iff_true]; exact hI.snow
  · simp (disch := omega) only [su_a, upd_a, if_pos, if_neg, if_true, if_false, eq_self_iff_true]; exact hI.pl hp
  · simp (disch := omega) only [su_a, upd_a, if_pos, if_neg, if_true, if_false, eq_self_iff_true]; exact hI.ho hh
  · simp (disch := omega) only [su_a, upd_a, if_pos, if_neg, if_true, if_false, eq_self_iff_true]; exact hI.th ht
theorem HB.u_snow {v : St} {w : Nat → Int32} (hI : WInv w) (hB : HB v w) (x : Int32) : HB (su v 2 0 x) (upd w 5 x) := by
  have h5 := hI.p5
  have h10 := hI.t10
  have eP : nP (upd w 5 x) = nP w := by unfold nP; rw [upd_n _ _ _ (by omega)]
  have eT : nT (upd w 5 x) = nT w := by unfold nT; rw [upd_n _ _ _ (by omega)]
  unfold HB
  rw [eP, eT]
  refine ⟨?_, ?_, ?_, ?_, ?_, ?_, ?_, ?_, ?_, fun p hp => ?_, fun h hh => ?_, fun t ht => ?_⟩
  · simp (disch := omega) only [su_a, upd_a, if_pos, if_neg, if_true, if_false, eq_self_iff_true]; exact hB.p
  · simp (disch := omega) only [su_a, upd_a, if_pos, if_neg, if_true, if_false, eq_self_iff_true]; exact hB.t
  · simp (disch := omega) only [su_a, upd_a, if_pos, if_neg, if_true, if_false, eq_self_iff_true]
  · simp (disch := omega) only [su_a, upd_a, if_pos, if_neg, if_true, if_false, eq_self_iff_true]; exact hB.step
  · simp (disch := omega) only [su_a, upd_a, if_pos, if_neg, if_true, if_false, eq_self_iff_true]; exact hB.fall
  · simp (disch := omega) only [su_a, upd_a, if_pos, if_neg, if_true, if_false, eq_self_iff_true]; exact hB.thieves
  · simp (disch := omega) only [su_a, upd_a, if_pos, if_neg, if_true, if_false, eq_self_iff_true]; exact hB.fee
  · simp (disch := omega) only [su_a, upd_a, if_pos, if_neg, if_true, if_false, eq_self_iff_true]; exact hB.week
  · simp (disch := omega) only [su_a, upd_a, if_pos, if_neg, if_true, if_false, eq_self_iff_true]; exact hB.seed
  · simp (disch := omega) only [su_a, upd_a, if_pos, if_neg, if_true, if_false, eq_self_iff_true]; exact ⟨hB.bears hp, hB.age hp, hB.prop hp, hB.broken hp⟩
  · simp (disch := omega) only [su_a, upd_a, if_pos, if_neg, if_true, if_false, eq_self_iff_true]; exact ⟨hB.purse hh, hB.guests hh⟩
  · simp (disch := omega) only [su_a, upd_a, if_pos, if_neg, if_true, if_false, eq_self_iff_true]; exact ⟨hB.weight ht, hB.worth ht, hB.home ht⟩
theorem WInv.u_snow {w : Nat → Int32} (hI : WInv w) (x : Int32) (hx : inB x 0 99) : WInv (upd w 5 x) := by
  have h5 := hI.p5
  have h10 := hI.t10
  have eP : nP (upd w 5 x) = nP w := by unfold nP; rw [upd_n _ _ _ (by omega)]
  have eT : nT (upd w 5 x) = nT w := by unfold nT; rw [upd_n _ _ _ (by omega)]
  unfold WInv
  rw [eP, eT]
  refine ⟨?_, ?_, ?_, ?_, fun p hp => ?_, fun h hh => ?_, fun t ht => ?_⟩
  · simp (disch := omega) only [su_a, upd_a, if_pos, if_neg, if_true, if_false, eq_self_iff_true]; exact hI.1
  · simp (disch := omega) only [su_a, upd_a, if_pos, if_neg, if_true, if_false, eq_self_iff_true]; exact hI.2.1
  · simp (disch := omega) only [su_a, upd_a, if_pos, if_neg, if_true, if_false, eq_self_iff_true]; exact hI.step
  · simp (disch := omega) only [su_a, upd_a, if_pos, if_neg, if_true, if_false, eq_self_iff_true]; exact hx
  · simp (disch := omega) only [su_a, upd_a, if_pos, if_neg, if_true, if_false, eq_self_iff_true]; exact hI.pl hp
  · simp (disch := omega) only [su_a, upd_a, if_pos, if_neg, if_true, if_false, eq_self_iff_true]; exact hI.ho hh
  · simp (disch := omega) only [su_a, upd_a, if_pos, if_neg, if_true, if_false, eq_self_iff_true]; exact hI.th ht
theorem HB.u_week {v : St} {w : Nat → Int32} (hI : WInv w) (hB : HB v w) (x : Int32) : HB (su v 7 0 x) (upd w 4 x) := by
  have h5 := hI.p5
  have h10 := hI.t10
  have eP : nP (upd w 4 x) = nP w := by unfold nP; rw [upd_n _ _ _ (by omega)]
  have eT : nT (upd w 4 x) = nT w := by unfold nT; rw [upd_n _ _ _ (by omega)]
  unfold HB
  rw [eP, eT]
  refine ⟨?_, ?_, ?_, ?_, ?_, ?_, ?_, ?_, ?_, fun p hp => ?_, fun h hh => ?_, fun t ht => ?_⟩
  · simp (disch := omega) only [su_a, upd_a, if_pos, if_neg, if_true, if_false, eq_self_iff_true]; exact hB.p
  · simp (disch := omega) only [su_a, upd_a, if_pos, if_neg, if_true, if_false, eq_self_iff_true]; exact hB.t
  · simp (disch := omega) only [su_a, upd_a, if_pos, if_neg, if_true, if_false, eq_self_iff_true]; exact hB.snow
  · simp (disch := omega) only [su_a, upd_a, if_pos, if_neg, if_true, if_false, eq_self_iff_true]; exact hB.step
  · simp (disch := omega) only [su_a, upd_a, if_pos, if_neg, if_true, if_false, eq_self_iff_true]; exact hB.fall
  · simp (disch := omega) only [su_a, upd_a, if_pos, if_neg, if_true, if_false, eq_self_iff_true]; exact hB.thieves
  · simp (disch := omega) only [su_a, upd_a, if_pos, if_neg, if_true, if_false, eq_self_iff_true]; exact hB.fee
  · simp (disch := omega) only [su_a, upd_a, if_pos, if_neg, if_true, if_false, eq_self_iff_true]
  · simp (disch := omega) only [su_a, upd_a, if_pos, if_neg, if_true, if_false, eq_self_iff_true]; exact hB.seed
  · simp (disch := omega) only [su_a, upd_a, if_pos, if_neg, if_true, if_false, eq_self_iff_true]; exact ⟨hB.bears hp, hB.age hp, hB.prop hp, hB.broken hp⟩
  · simp (disch := omega) only [su_a, upd_a, if_pos, if_neg, if_true, if_false, eq_self_iff_true]; exact ⟨hB.purse hh, hB.guests hh⟩
  · simp (disch := omega) only [su_a, upd_a, if_pos, if_neg, if_true, if_false, eq_self_iff_true]; exact ⟨hB.weight ht, hB.worth ht, hB.home ht⟩
theorem WInv.u_week {w : Nat → Int32} (hI : WInv w) (x : Int32) : WInv (upd w 4 x) := by
  have h5 := hI.p5
  have h10 := hI.t10
  have eP : nP (upd w 4 x) = nP w := by unfold nP; rw [upd_n _ _ _ (by omega)]
  have eT : nT (upd w 4 x) = nT w := by unfold nT; rw [upd_n _ _ _ (by omega)]
  unfold WInv
  rw [eP, eT]
  refine ⟨?_, ?_, ?_, ?_, fun p hp => ?_, fun h hh => ?_, fun t ht => ?_⟩
  · simp (disch := omega) only [su_a, upd_a, if_pos, if_neg, if_true, if_false, eq_self_iff_true]; exact hI.1
  · simp (disch := omega) only [su_a, upd_a, if_pos, if_neg, if_true, if_false, eq_self_iff_true]; exact hI.2.1
  · simp (disch := omega) only [su_a, upd_a, if_pos, if_neg, if_true, if_false, eq_self_iff_true]; exact hI.step
  · simp (disch := omega) only [su_a, upd_a, if_pos, if_neg, if_true, if_false, eq_self_iff_true]; exact hI.snow
  · simp (disch := omega) only [su_a, upd_a, if_pos, if_neg, if_true, if_false, eq_self_iff_true]; exact hI.pl hp
  · simp (disch := omega) only [su_a, upd_a, if_pos, if_neg, if_true, if_false, eq_self_iff_true]; exact hI.ho hh
  · simp (disch := omega) only [su_a, upd_a, if_pos, if_neg, if_true, if_false, eq_self_iff_true]; exact hI.th ht
theorem HB.u_step {v : St} {w : Nat → Int32} (hI : WInv w) (hB : HB v w) (x : Int32) : HB (su v 3 0 x) (upd w 6 x) := by
  have h5 := hI.p5
  have h10 := hI.t10
  have eP : nP (upd w 6 x) = nP w := by unfold nP; rw [upd_n _ _ _ (by omega)]
  have eT : nT (upd w 6 x) = nT w := by unfold nT; rw [upd_n _ _ _ (by omega)]
  unfold HB
  rw [eP, eT]
  refine ⟨?_, ?_, ?_, ?_, ?_, ?_, ?_, ?_, ?_, fun p hp => ?_, fun h hh => ?_, fun t ht => ?_⟩
  · simp (disch := omega) only [su_a, upd_a, if_pos, if_neg, if_true, if_false, eq_self_iff_true]; exact hB.p
  · simp (disch := omega) only [su_a, upd_a, if_pos, if_neg, if_true, if_false, eq_self_iff_true]; exact hB.t
  · simp (disch := omega) only [su_a, upd_a, if_pos, if_neg, if_true, if_false, eq_self_iff_true]; exact hB.snow
  · simp (disch := omega) only [su_a, upd_a, if_pos, if_neg, if_true, if_false, eq_self_iff_true]
  · simp (disch := omega) only [su_a, upd_a, if_pos, if_neg, if_true, if_false, eq_self_iff_true]; exact hB.fall
  · simp (disch := omega) only [su_a, upd_a, if_pos, if_neg, if_true, if_false, eq_self_iff_true]; exact hB.thieves
  · simp (disch := omega) only [su_a, upd_a, if_pos, if_neg, if_true, if_false, eq_self_iff_true]; exact hB.fee
  · simp (disch := omega) only [su_a, upd_a, if_pos, if_neg, if_true, if_false, eq_self_iff_true]; exact hB.week
  · simp (disch := omega) only [su_a, upd_a, if_pos, if_neg, if_true, if_false, eq_self_iff_true]; exact hB.seed
  · simp (disch := omega) only [su_a, upd_a, if_pos, if_neg, if_true, if_false, eq_self_iff_true]; exact ⟨hB.bears hp, hB.age hp, hB.prop hp, hB.broken hp⟩
  · simp (disch := omega) only [su_a, upd_a, if_pos, if_neg, if_true, if_false, eq_self_iff_true]; exact ⟨hB.purse hh, hB.guests hh⟩
  · simp (disch := omega) only [su_a, upd_a, if_pos, if_neg, if_true, if_false, eq_self_iff_true]; exact ⟨hB.weight ht, hB.worth ht, hB.home ht⟩
theorem WInv.u_step {w : Nat → Int32} (hI : WInv w) (x : Int32) (hx : inB x 1 40) : WInv (upd w 6 x) := by
  have h5 := hI.p5
  have h10 := hI.t10
  have eP : nP (upd w 6 x) = nP w := by unfold nP; rw [upd_n _ _ _ (by omega)]
  have eT : nT (upd w 6 x) = nT w := by unfold nT; rw [upd_n _ _ _ (by omega)]
  unfold WInv
  rw [eP, eT]
  refine ⟨?_, ?_, ?_, ?_, fun p hp => ?_, fun h hh => ?_, fun t ht => ?_⟩
  · simp (disch := omega) only [su_a, upd_a, if_pos, if_neg, if_true, if_false, eq_self_iff_true]; exact hI.1
  · simp (disch := omega) only [su_a, upd_a, if_pos, if_neg, if_true, if_false, eq_self_iff_true]; exact hI.2.1
  · simp (disch := omega) only [su_a, upd_a, if_pos, if_neg, if_true, if_false, eq_self_iff_true]; exact hx
  · simp (disch := omega) only [su_a, upd_a, if_pos, if_neg, if_true, if_false, eq_self_iff_true]; exact hI.snow
  · simp (disch := omega) only [su_a, upd_a, if_pos, if_neg, if_true, if_false, eq_self_iff_true]; exact hI.pl hp
  · simp (disch := omega) only [su_a, upd_a, if_pos, if_neg, if_true, if_false, eq_self_iff_true]; exact hI.ho hh
  · simp (disch := omega) only [su_a, upd_a, if_pos, if_neg, if_true, if_false, eq_self_iff_true]; exact hI.th ht
theorem HB.u_fall {v : St} {w : Nat → Int32} (hI : WInv w) (hB : HB v w) (x : Int32) : HB (su v 4 0 x) (upd w 7 x) := by
  have h5 := hI.p5
  have h10 := hI.t10
  have eP : nP (upd w 7 x) = nP w := by unfold nP; rw [upd_n _ _ _ (by omega)]
  have eT : nT (upd w 7 x) = nT w := by unfold nT; rw [upd_n _ _ _ (by omega)]
  unfold HB
  rw [eP, eT]
  refine ⟨?_, ?_, ?_, ?_, ?_, ?_, ?_, ?_, ?_, fun p hp => ?_, fun h hh => ?_, fun t ht => ?_⟩
  · simp (disch := omega) only [su_a, upd_a, if_pos, if_neg, if_true, if_false, eq_self_iff_true]; exact hB.p
  · simp (disch := omega) only [su_a, upd_a, if_pos, if_neg, if_true, if_false, eq_self_iff_true]; exact hB.t
  · simp (disch := omega) only [su_a, upd_a, if_pos, if_neg, if_true, if_false, eq_self_iff_true]; exact hB.snow
  · simp (disch := omega) only [su_a, upd_a, if_pos, if_neg, if_true, if_false, eq_self_iff_true]; exact hB.step
  · simp (disch := omega) only [su_a, upd_a, if_pos, if_neg, if_true, if_false, eq_self_iff_true]
  · simp (disch := omega) only [su_a, upd_a, if_pos, if_neg, if_true, if_false, eq_self_iff_true]; exact hB.thieves
  · simp (disch := omega) only [su_a, upd_a, if_pos, if_neg, if_true, if_false, eq_self_iff_true]; exact hB.fee
  · simp (disch := omega) only [su_a, upd_a, if_pos, if_neg, if_true, if_false, eq_self_iff_true]; exact hB.week
  · simp (disch := omega) only [su_a, upd_a, if_pos, if_neg, if_true, if_false, eq_self_iff_true]; exact hB.seed
  · simp (disch := omega) only [su_a, upd_a, if_pos, if_neg, if_true, if_false, eq_self_iff_true]; exact ⟨hB.bears hp, hB.age hp, hB.prop hp, hB.broken hp⟩
  · simp (disch := omega) only [su_a, upd_a, if_pos, if_neg, if_true, if_false, eq_self_iff_true]; exact ⟨hB.purse hh, hB.guests hh⟩
  · simp (disch := omega) only [su_a, upd_a, if_pos, if_neg, if_true, if_false, eq_self_iff_true]; exact ⟨hB.weight ht, hB.worth ht, hB.home ht⟩
theorem WInv.u_fall {w : Nat → Int32} (hI : WInv w) (x : Int32) : WInv (upd w 7 x) := by
  have h5 := hI.p5
  have h10 := hI.t10
  have eP : nP (upd w 7 x) = nP w := by unfold nP; rw [upd_n _ _ _ (by omega)]
  have eT : nT (upd w 7 x) = nT w := by unfold nT; rw [upd_n _ _ _ (by omega)]
  unfold WInv
  rw [eP, eT]
  refine ⟨?_, ?_, ?_, ?_, fun p hp => ?_, fun h hh => ?_, fun t ht => ?_⟩
  · simp (disch := omega) only [su_a, upd_a, if_pos, if_neg, if_true, if_false, eq_self_iff_true]; exact hI.1
  · simp (disch := omega) only [su_a, upd_a, if_pos, if_neg, if_true, if_false, eq_self_iff_true]; exact hI.2.1
  · simp (disch := omega) only [su_a, upd_a, if_pos, if_neg, if_true, if_false, eq_self_iff_true]; exact hI.step
  · simp (disch := omega) only [su_a, upd_a, if_pos, if_neg, if_true, if_false, eq_self_iff_true]; exact hI.snow
  · simp (disch := omega) only [su_a, upd_a, if_pos, if_neg, if_true, if_false, eq_self_iff_true]; exact hI.pl hp
  · simp (disch := omega) only [su_a, upd_a, if_pos, if_neg, if_true, if_false, eq_self_iff_true]; exact hI.ho hh
  · simp (disch := omega) only [su_a, upd_a, if_pos, if_neg, if_true, if_false, eq_self_iff_true]; exact hI.th ht
theorem HB.u_thieves {v : St} {w : Nat → Int32} (hI : WInv w) (hB : HB v w) (x : Int32) : HB (su v 5 0 x) (upd w 8 x) := by
  have h5 := hI.p5
  have h10 := hI.t10
  have eP : nP (upd w 8 x) = nP w := by unfold nP; rw [upd_n _ _ _ (by omega)]
  have eT : nT (upd w 8 x) = nT w := by unfold nT; rw [upd_n _ _ _ (by omega)]
  unfold HB
  rw [eP, eT]
  refine ⟨?_, ?_, ?_, ?_, ?_, ?_, ?_, ?_, ?_, fun p hp => ?_, fun h hh => ?_, fun t ht => ?_⟩
  · simp (disch := omega) only [su_a, upd_a, if_pos, if_neg, if_true, if_false, eq_self_iff_true]; exact hB.p
  · simp (disch := omega) only [su_a, upd_a, if_pos, if_neg, if_true, if_false, eq_self_iff_true]; exact hB.t
  · simp (disch := omega) only [su_a, upd_a, if_pos, if_neg, if_true, if_false, eq_self_iff_true]; exact hB.snow
  · simp (disch := omega) only [su_a, upd_a, if_pos, if_neg, if_true, if_false, eq_self_iff_true]; exact hB.step
  · simp (disch := omega) only [su_a, upd_a, if_pos, if_neg, if_true, if_false, eq_self_iff_true]; exact hB.fall
  · simp (disch := omega) only [su_a, upd_a, if_pos, if_neg, if_true, if_false, eq_self_iff_true]
  · simp (disch := omega) only [su_a, upd_a, if_pos, if_neg, if_true, if_false, eq_self_iff_true]; exact hB.fee
  · simp (disch := omega) only [su_a, upd_a, if_pos, if_neg, if_true, if_false, eq_self_iff_true]; exact hB.week
  · simp (disch := omega) only [su_a, upd_a, if_pos, if_neg, if_true, if_false, eq_self_iff_true]; exact hB.seed
  · simp (disch := omega) only [su_a, upd_a, if_pos, if_neg, if_true, if_false, eq_self_iff_true]; exact ⟨hB.bears hp, hB.age hp, hB.prop hp, hB.broken hp⟩
  · simp (disch := omega) only [su_a, upd_a, if_pos, if_neg, if_true, if_false, eq_self_iff_true]; exact ⟨hB.purse hh, hB.guests hh⟩
  · simp (disch := omega) only [su_a, upd_a, if_pos, if_neg, if_true, if_false, eq_self_iff_true]; exact ⟨hB.weight ht, hB.worth ht, hB.home ht⟩
theorem WInv.u_thieves {w : Nat → Int32} (hI : WInv w) (x : Int32) : WInv (upd w 8 x) := by
  have h5 := hI.p5
  have h10 := hI.t10
  have eP : nP (upd w 8 x) = nP w := by unfold nP; rw [upd_n _ _ _ (by omega)]
  have eT : nT (upd w 8 x) = nT w := by unfold nT; rw [upd_n _ _ _ (by omega)]
  unfold WInv
  rw [eP, eT]
  refine ⟨?_, ?_, ?_, ?_, fun p hp => ?_, fun h hh => ?_, fun t ht => ?_⟩
  · simp (disch := omega) only [su_a, upd_a, if_pos, if_neg, if_true, if_false, eq_self_iff_true]; exact hI.1
  · simp (disch := omega) only [su_a, upd_a, if_pos, if_neg, if_true, if_false, eq_self_iff_true]; exact hI.2.1
  · simp (disch := omega) only [su_a, upd_a, if_pos, if_neg, if_true, if_false, eq_self_iff_true]; exact hI.step
  · simp (disch := omega) only [su_a, upd_a, if_pos, if_neg, if_true, if_false, eq_self_iff_true]; exact hI.snow
  · simp (disch := omega) only [su_a, upd_a, if_pos, if_neg, if_true, if_false, eq_self_iff_true]; exact hI.pl hp
  · simp (disch := omega) only [su_a, upd_a, if_pos, if_neg, if_true, if_false, eq_self_iff_true]; exact hI.ho hh
  · simp (disch := omega) only [su_a, upd_a, if_pos, if_neg, if_true, if_false, eq_self_iff_true]; exact hI.th ht
theorem HB.u_fee {v : St} {w : Nat → Int32} (hI : WInv w) (hB : HB v w) (x : Int32) : HB (su v 6 0 x) (upd w 9 x) := by
  have h5 := hI.p5
  have h10 := hI.t10
  have eP : nP (upd w 9 x) = nP w := by unfold nP; rw [upd_n _ _ _ (by omega)]
  have eT : nT (upd w 9 x) = nT w := by unfold nT; rw [upd_n _ _ _ (by omega)]
  unfold HB
  rw [eP, eT]
  refine ⟨?_, ?_, ?_, ?_, ?_, ?_, ?_, ?_, ?_, fun p hp => ?_, fun h hh => ?_, fun t ht => ?_⟩
  · simp (disch := omega) only [su_a, upd_a, if_pos, if_neg, if_true, if_false, eq_self_iff_true]; exact hB.p
  · simp (disch := omega) only [su_a, upd_a, if_pos, if_neg, if_true, if_false, eq_self_iff_true]; exact hB.t
  · simp (disch := omega) only [su_a, upd_a, if_pos, if_neg, if_true, if_false, eq_self_iff_true]; exact hB.snow
  · simp (disch := omega) only [su_a, upd_a, if_pos, if_neg, if_true, if_false, eq_self_iff_true]; exact hB.step
  · simp (disch := omega) only [su_a, upd_a, if_pos, if_neg, if_true, if_false, eq_self_iff_true]; exact hB.fall
  · simp (disch := omega) only [su_a, upd_a, if_pos, if_neg, if_true, if_false, eq_self_iff_true]; exact hB.thieves
  · simp (disch := omega) only [su_a, upd_a, if_pos, if_neg, if_true, if_false, eq_self_iff_true]
  · simp (disch := omega) only [su_a, upd_a, if_pos, if_neg, if_true, if_false, eq_self_iff_true]; exact hB.week
  · simp (disch := omega) only [su_a, upd_a, if_pos, if_neg, if_true, if_false, eq_self_iff_true]; exact hB.seed
  · simp (disch := omega) only [su_a, upd_a, if_pos, if_neg, if_true, if_false, eq_self_iff_true]; exact ⟨hB.bears hp, hB.age hp, hB.prop hp, hB.broken hp⟩
  · simp (disch := omega) only [su_a, upd_a, if_pos, if_neg, if_true, if_false, eq_self_iff_true]; exact ⟨hB.purse hh, hB.guests hh⟩
  · simp (disch := omega) only [su_a, upd_a, if_pos, if_neg, if_true, if_false, eq_self_iff_true]; exact ⟨hB.weight ht, hB.worth ht, hB.home ht⟩
theorem WInv.u_fee {w : Nat → Int32} (hI : WInv w) (x : Int32) : WInv (upd w 9 x) := by
  have h5 := hI.p5
  have h10 := hI.t10
  have eP : nP (upd w 9 x) = nP w := by unfold nP; rw [upd_n _ _ _ (by omega)]
  have eT : nT (upd w 9 x) = nT w := by unfold nT; rw [upd_n _ _ _ (by omega)]
  unfold WInv
  rw [eP, eT]
  refine ⟨?_, ?_, ?_, ?_, fun p hp => ?_, fun h hh => ?_, fun t ht => ?_⟩
  · simp (disch := omega) only [su_a, upd_a, if_pos, if_neg, if_true, if_false, eq_self_iff_true]; exact hI.1
  · simp (disch := omega) only [su_a, upd_a, if_pos, if_neg, if_true, if_false, eq_self_iff_true]; exact hI.2.1
  · simp (disch := omega) only [su_a, upd_a, if_pos, if_neg, if_true, if_false, eq_self_iff_true]; exact hI.step
  · simp (disch := omega) only [su_a, upd_a, if_pos, if_neg, if_true, if_false, eq_self_iff_true]; exact hI.snow
  · simp (disch := omega) only [su_a, upd_a, if_pos, if_neg, if_true, if_false, eq_self_iff_true]; exact hI.pl hp
  · simp (disch := omega) only [su_a, upd_a, if_pos, if_neg, if_true, if_false, eq_self_iff_true]; exact hI.ho hh
  · simp (disch := omega) only [su_a, upd_a, if_pos, if_neg, if_true, if_false, eq_self_iff_true]; exact hI.th ht
theorem HB.u_age {v : St} {w : Nat → Int32} (hI : WInv w) (hB : HB v w) {q : Nat} (hq : q < nP w) (x : Int32) : HB (su v 10 q x) (upd w (13 + 4 * q) x) := by
  have h5 := hI.p5
  have h10 := hI.t10
  have eP : nP (upd w (13 + 4 * q) x) = nP w := by unfold nP; rw [upd_n _ _ _ (by omega)]
  have eT : nT (upd w (13 + 4 * q) x) = nT w := by unfold nT; rw [upd_n _ _ _ (by omega)]
  unfold HB
  rw [eP, eT]
  refine ⟨?_, ?_, ?_, ?_, ?_, ?_, ?_, ?_, ?_, fun p hp => ?_, fun h hh => ?_, fun t ht => ?_⟩
  · simp (disch := omega) only [su_a, upd_a, if_pos, if_neg, if_true, if_false, eq_self_iff_true]; exact hB.p
  · simp (disch := omega) only [su_a, upd_a, if_pos, if_neg, if_true, if_false, eq_self_iff_true]; exact hB.t
  · simp (disch := omega) only [su_a, upd_a, if_pos, if_neg, if_true, if_false, eq_self_iff_true]; exact hB.snow
  · simp (disch := omega) only [su_a, upd_a, if_pos, if_neg, if_true, if_false, eq_self_iff_true]; exact hB.step
  · simp (disch := omega) only [su_a, upd_a, if_pos, if_neg, if_true, if_false, eq_self_iff_true]; exact hB.fall
  · simp (disch := omega) only [su_a, upd_a, if_pos, if_neg, if_true, if_false, eq_self_iff_true]; exact hB.thieves
  · simp (disch := omega) only [su_a, upd_a, if_pos, if_neg, if_true, if_false, eq_self_iff_true]; exact hB.fee
  · simp (disch := omega) only [su_a, upd_a, if_pos, if_neg, if_true, if_false, eq_self_iff_true]; exact hB.week
  · simp (disch := omega) only [su_a, upd_a, if_pos, if_neg, if_true, if_false, eq_self_iff_true]; exact hB.seed
  · by_cases e : p = q
    · subst e; simp (disch := omega) only [su_a, upd_a, if_pos, if_neg, if_true, if_false, eq_self_iff_true]; first | exact ⟨hB.bears hp, rfl, hB.prop hp, hB.broken hp⟩ | (refine ⟨hB.bears hp, ?_, hB.prop hp, hB.broken hp⟩; trivial) | trivial
    · simp (disch := omega) only [su_a, upd_a, if_pos, if_neg, if_true, if_false, eq_self_iff_true]; exact ⟨hB.bears hp, hB.age hp, hB.prop hp, hB.broken hp⟩
  · simp (disch := omega) only [su_a, upd_a, if_pos, if_neg, if_true, if_false, eq_self_iff_true]; exact ⟨hB.purse hh, hB.guests hh⟩
  · simp (disch := omega) only [su_a, upd_a, if_pos, if_neg, if_true, if_false, eq_self_iff_true]; exact ⟨hB.weight ht, hB.worth ht, hB.home ht⟩
theorem WInv.u_age {w : Nat → Int32} (hI : WInv w) {q : Nat} (hq : q < nP w) (x : Int32) (hx : inB x 0 99) : WInv (upd w (13 + 4 * q) x) := by
  have h5 := hI.p5
  have h10 := hI.t10
  have eP : nP (upd w (13 + 4 * q) x) = nP w := by unfold nP; rw [upd_n _ _ _ (by omega)]
  have eT : nT (upd w (13 + 4 * q) x) = nT w := by unfold nT; rw [upd_n _ _ _ (by omega)]
  unfold WInv
  rw [eP, eT]
  refine ⟨?_, ?_, ?_, ?_, fun p hp => ?_, fun h hh => ?_, fun t ht => ?_⟩
  · simp (disch := omega) only [su_a, upd_a, if_pos, if_neg, if_true, if_false, eq_self_iff_true]; exact hI.1
  · simp (disch := omega) only [su_a, upd_a, if_pos, if_neg, if_true, if_false, eq_self_iff_true]; exact hI.2.1
  · simp (disch := omega) only [su_a, upd_a, if_pos, if_neg, if_true, if_false, eq_self_iff_true]; exact hI.step
  · simp (disch := omega) only [su_a, upd_a, if_pos, if_neg, if_true, if_false, eq_self_iff_true]; exact hI.snow
  · by_cases e : p = q
    · subst e; simp (disch := omega) only [su_a, upd_a, if_pos, if_neg, if_true, if_false, eq_self_iff_true]; exact ⟨(hI.pl hp).1, hx, (hI.pl hp).2.2⟩
    · simp (disch := omega) only [su_a, upd_a, if_pos, if_neg, if_true, if_false, eq_self_iff_true]; exact hI.pl hp
  · simp (disch := omega) only [su_a, upd_a, if_pos, if_neg, if_true, if_false, eq_self_iff_true]; exact hI.ho hh
  · simp (disch := omega) only [su_a, upd_a, if_pos, if_neg, if_true, if_false, eq_self_iff_true]; exact hI.th ht
theorem HB.u_prop {v : St} {w : Nat → Int32} (hI : WInv w) (hB : HB v w) {q : Nat} (hq : q < nP w) (x : Int32) : HB (su v 11 q x) (upd w (14 + 4 * q) x) := by
  have h5 := hI.p5
  have h10 := hI.t10
  have eP : nP (upd w (14 + 4 * q) x) = nP w := by unfold nP; rw [upd_n _ _ _ (by omega)]
  have eT : nT (upd w (14 + 4 * q) x) = nT w := by unfold nT; rw [upd_n _ _ _ (by omega)]
  unfold HB
  rw [eP, eT]
  refine ⟨?_, ?_, ?_, ?_, ?_, ?_, ?_, ?_, ?_, fun p hp => ?_, fun h hh => ?_, fun t ht => ?_⟩
  · simp (disch := omega) only [su_a, upd_a, if_pos, if_neg, if_true, if_false, eq_self_iff_true]; exact hB.p
  · simp (disch := omega) only [su_a, upd_a, if_pos, if_neg, if_true, if_false, eq_self_iff_true]; exact hB.t
  · simp (disch := omega) only [su_a, upd_a, if_pos, if_neg, if_true, if_false, eq_self_iff_true]; exact hB.snow
  · simp (disch := omega) only [su_a, upd_a, if_pos, if_neg, if_true, if_false, eq_self_iff_true]; exact hB.step
  · simp (disch := omega) only [su_a, upd_a, if_pos, if_neg, if_true, if_false, eq_self_iff_true]; exact hB.fall
  · simp (disch := omega) only [su_a, upd_a, if_pos, if_neg, if_true, if_false, eq_self_iff_true]; exact hB.thieves
  · simp (disch := omega) only [su_a, upd_a, if_pos, if_neg, if_true, if_false, eq_self_iff_true]; exact hB.fee
  · simp (disch := omega) only [su_a, upd_a, if_pos, if_neg, if_true, if_false, eq_self_iff_true]; exact hB.week
  · simp (disch := omega) only [su_a, upd_a, if_pos, if_neg, if_true, if_false, eq_self_iff_true]; exact hB.seed
  · by_cases e : p = q
    · subst e; simp (disch := omega) only [su_a, upd_a, if_pos, if_neg, if_true, if_false, eq_self_iff_true]; first | exact ⟨hB.bears hp, hB.age hp, rfl, hB.broken hp⟩ | (refine ⟨hB.bears hp, hB.age hp, ?_, hB.broken hp⟩; trivial) | trivial
    · simp (disch := omega) only [su_a, upd_a, if_pos, if_neg, if_true, if_false, eq_self_iff_true]; exact ⟨hB.bears hp, hB.age hp, hB.prop hp, hB.broken hp⟩
  · simp (disch := omega) only [su_a, upd_a, if_pos, if_neg, if_true, if_false, eq_self_iff_true]; exact ⟨hB.purse hh, hB.guests hh⟩
  · simp (disch := omega) only [su_a, upd_a, if_pos, if_neg, if_true, if_false, eq_self_iff_true]; exact ⟨hB.weight ht, hB.worth ht, hB.home ht⟩
theorem WInv.u_prop {w : Nat → Int32} (hI : WInv w) {q : Nat} (hq : q < nP w) (x : Int32) (hx : isb x) : WInv (upd w (14 + 4 * q) x) := by
  have h5 := hI.p5
  have h10 := hI.t10
  have eP : nP (upd w (14 + 4 * q) x) = nP w := by unfold nP; rw [upd_n _ _ _ (by omega)]
  have eT : nT (upd w (14 + 4 * q) x) = nT w := by unfold nT; rw [upd_n _ _ _ (by omega)]
  unfold WInv
  rw [eP, eT]
  refine ⟨?_, ?_, ?_, ?_, fun p hp => ?_, fun h hh => ?_, fun t ht => ?_⟩
  · simp (disch := omega) only [su_a, upd_a, if_pos, if_neg, if_true, if_false, eq_self_iff_true]; exact hI.1
  · simp (disch := omega) only [su_a, upd_a, if_pos, if_neg, if_true, if_false, eq_self_iff_true]; exact hI.2.1
  · simp (disch := omega) only [su_a, upd_a, if_pos, if_neg, if_true, if_false, eq_self_iff_true]; exact hI.step
  · simp (disch := omega) only [su_a, upd_a, if_pos, if_neg, if_true, if_false, eq_self_iff_true]; exact hI.snow
  · by_cases e : p = q
    · subst e; simp (disch := omega) only [su_a, upd_a, if_pos, if_neg, if_true, if_false, eq_self_iff_true]; exact ⟨(hI.pl hp).1, (hI.pl hp).2.1, hx, (hI.pl hp).2.2.2⟩
    · simp (disch := omega) only [su_a, upd_a, if_pos, if_neg, if_true, if_false, eq_self_iff_true]; exact hI.pl hp
  · simp (disch := omega) only [su_a, upd_a, if_pos, if_neg, if_true, if_false, eq_self_iff_true]; exact hI.ho hh
  · simp (disch := omega) only [su_a, upd_a, if_pos, if_neg, if_true, if_false, eq_self_iff_true]; exact hI.th ht
theorem HB.u_broken {v : St} {w : Nat → Int32} (hI : WInv w) (hB : HB v w) {q : Nat} (hq : q < nP w) (x : Int32) : HB (su v 12 q x) (upd w (15 + 4 * q) x) := by
  have h5 := hI.p5
  have h10 := hI.t10
  have eP : nP (upd w (15 + 4 * q) x) = nP w := by unfold nP; rw [upd_n _ _ _ (by omega)]
  have eT : nT (upd w (15 + 4 * q) x) = nT w := by unfold nT; rw [upd_n _ _ _ (by omega)]
  unfold HB
  rw [eP, eT]
  refine ⟨?_, ?_, ?_, ?_, ?_, ?_, ?_, ?_, ?_, fun p hp => ?_, fun h hh => ?_, fun t ht => ?_⟩
  · simp (disch := omega) only [su_a, upd_a, if_pos, if_neg, if_true, if_false, eq_self_iff_true]; exact hB.p
  · simp (disch := omega) only [su_a, upd_a, if_pos, if_neg, if_true, if_false, eq_self_iff_true]; exact hB.t
  · simp (disch := omega) only [su_a, upd_a, if_pos, if_neg, if_true, if_false, eq_self_iff_true]; exact hB.snow
  · simp (disch := omega) only [su_a, upd_a, if_pos, if_neg, if_true, if_false, eq_self_iff_true]; exact hB.step
  · simp (disch := omega) only [su_a, upd_a, if_pos, if_neg, if_true, if_false, eq_self_iff_true]; exact hB.fall
  · simp (disch := omega) only [su_a, upd_a, if_pos, if_neg, if_true, if_false, eq_self_iff_true]; exact hB.thieves
  · simp (disch := omega) only [su_a, upd_a, if_pos, if_neg, if_true, if_false, eq_self_iff_true]; exact hB.fee
  · simp (disch := omega) only [su_a, upd_a, if_pos, if_neg, if_true, if_false, eq_self_iff_true]; exact hB.week
  · simp (disch := omega) only [su_a, upd_a, if_pos, if_neg, if_true, if_false, eq_self_iff_true]; exact hB.seed
  · by_cases e : p = q
    · subst e; simp (disch := omega) only [su_a, upd_a, if_pos, if_neg, if_true, if_false, eq_self_iff_true]; first | exact ⟨hB.bears hp, hB.age hp, hB.prop hp, rfl⟩ | (refine ⟨hB.bears hp, hB.age hp, hB.prop hp, ?_⟩; trivial) | trivial
    · simp (disch := omega) only [su_a, upd_a, if_pos, if_neg, if_true, if_false, eq_self_iff_true]; exact ⟨hB.bears hp, hB.age hp, hB.prop hp, hB.broken hp⟩
  · simp (disch := omega) only [su_a, upd_a, if_pos, if_neg, if_true, if_false, eq_self_iff_true]; exact ⟨hB.purse hh, hB.guests hh⟩
  · simp (disch := omega) only [su_a, upd_a, if_pos, if_neg, if_true, if_false, eq_self_iff_true]; exact ⟨hB.weight ht, hB.worth ht, hB.home ht⟩
theorem WInv.u_broken {w : Nat → Int32} (hI : WInv w) {q : Nat} (hq : q < nP w) (x : Int32) (hx : isb x) : WInv (upd w (15 + 4 * q) x) := by
  have h5 := hI.p5
  have h10 := hI.t10
  have eP : nP (upd w (15 + 4 * q) x) = nP w := by unfold nP; rw [upd_n _ _ _ (by omega)]
  have eT : nT (upd w (15 + 4 * q) x) = nT w := by unfold nT; rw [upd_n _ _ _ (by omega)]
  unfold WInv
  rw [eP, eT]
  refine ⟨?_, ?_, ?_, ?_, fun p hp => ?_, fun h hh => ?_, fun t ht => ?_⟩
  · simp (disch := omega) only [su_a, upd_a, if_pos, if_neg, if_true, if_false, eq_self_iff_true]; exact hI.1
  · simp (disch := omega) only [su_a, upd_a, if_pos, if_neg, if_true, if_false, eq_self_iff_true]; exact hI.2.1
  · simp (disch := omega) only [su_a, upd_a, if_pos, if_neg, if_true, if_false, eq_self_iff_true]; exact hI.step
  · simp (disch := omega) only [su_a, upd_a, if_pos, if_neg, if_true, if_false, eq_self_iff_true]; exact hI.snow
  · by_cases e : p = q
    · subst e; simp (disch := omega) only [su_a, upd_a, if_pos, if_neg, if_true, if_false, eq_self_iff_true]; exact ⟨(hI.pl hp).1, (hI.pl hp).2.1, (hI.pl hp).2.2.1, hx⟩
    · simp (disch := omega) only [su_a, upd_a, if_pos, if_neg, if_true, if_false, eq_self_iff_true]; exact hI.pl hp
  · simp (disch := omega) only [su_a, upd_a, if_pos, if_neg, if_true, if_false, eq_self_iff_true]; exact hI.ho hh
  · simp (disch := omega) only [su_a, upd_a, if_pos, if_neg, if_true, if_false, eq_self_iff_true]; exact hI.th ht
theorem HB.u_purse {v : St} {w : Nat → Int32} (hI : WInv w) (hB : HB v w) {q : Nat} (hq : q < 2 * nP w) (x : Int32) : HB (su v 13 q x) (upd w (32 + 2 * q) x) := by
  have h5 := hI.p5
  have h10 := hI.t10
  have eP : nP (upd w (32 + 2 * q) x) = nP w := by unfold nP; rw [upd_n _ _ _ (by omega)]
  have eT : nT (upd w (32 + 2 * q) x) = nT w := by unfold nT; rw [upd_n _ _ _ (by omega)]
  unfold HB
  rw [eP, eT]
  refine ⟨?_, ?_, ?_, ?_, ?_, ?_, ?_, ?_, ?_, fun p hp => ?_, fun h hh => ?_, fun t ht => ?_⟩
  · simp (disch := omega) only [su_a, upd_a, if_pos, if_neg, if_true, if_false, eq_self_iff_true]; exact hB.p
  · simp (disch := omega) only [su_a, upd_a, if_pos, if_neg, if_true, if_false, eq_self_iff_true]; exact hB.t
  · simp (disch := omega) only [su_a, upd_a, if_pos, if_neg, if_true, if_false, eq_self_iff_true]; exact hB.snow
  · simp (disch := omega) only [su_a, upd_a, if_pos, if_neg, if_true, if_false, eq_self_iff_true]; exact hB.step
  · simp (disch := omega) only [su_a, upd_a, if_pos, if_neg, if_true, if_false, eq_self_iff_true]; exact hB.fall
  · simp (disch := omega) only [su_a, upd_a, if_pos, if_neg, if_true, if_false, eq_self_iff_true]; exact hB.thieves
  · simp (disch := omega) only [su_a, upd_a, if_pos, if_neg, if_true, if_false, eq_self_iff_true]; exact hB.fee
  · simp (disch := omega) only [su_a, upd_a, if_pos, if_neg, if_true, if_false, eq_self_iff_true]; exact hB.week
  · simp (disch := omega) only [su_a, upd_a, if_pos, if_neg, if_true, if_false, eq_self_iff_true]; exact hB.seed
  · simp (disch := omega) only [su_a, upd_a, if_pos, if_neg, if_true, if_false, eq_self_iff_true]; exact ⟨hB.bears hp, hB.age hp, hB.prop hp, hB.broken hp⟩
  · by_cases e : h = q
    · subst e; simp (disch := omega) only [su_a, upd_a, if_pos, if_neg, if_true, if_false, eq_self_iff_true]; first | exact ⟨rfl, hB.guests hh⟩ | (refine ⟨?_, hB.guests hh⟩; trivial) | trivial
    · simp (disch := omega) only [su_a, upd_a, if_pos, if_neg, if_true, if_false, eq_self_iff_true]; exact ⟨hB.purse hh, hB.guests hh⟩
  · simp (disch := omega) only [su_a, upd_a, if_pos, if_neg, if_true, if_false, eq_self_iff_true]; exact ⟨hB.weight ht, hB.worth ht, hB.home ht⟩
theorem WInv.u_purse {w : Nat → Int32} (hI : WInv w) {q : Nat} (hq : q < 2 * nP w) (x : Int32) : WInv (upd w (32 + 2 * q) x) := by
  have h5 := hI.p5
  have h10 := hI.t10
  have eP : nP (upd w (32 + 2 * q) x) = nP w := by unfold nP; rw [upd_n _ _ _ (by omega)]
  have eT : nT (upd w (32 + 2 * q) x) = nT w := by unfold nT; rw [upd_n _ _ _ (by omega)]
  unfold WInv
  rw [eP, eT]
  refine ⟨?_, ?_, ?_, ?_, fun p hp => ?_, fun h hh => ?_, fun t ht => ?_⟩
  · simp (disch := omega) only [su_a, upd_a, if_pos, if_neg, if_true, if_false, eq_self_iff_true]; exact hI.1
  · simp (disch := omega) only [su_a, upd_a, if_pos, if_neg, if_true, if_false, eq_self_iff_true]; exact hI.2.1
  · simp (disch := omega) only [su_a, upd_a, if_pos, if_neg, if_true, if_false, eq_self_iff_true]; exact hI.step
  · simp (disch := omega) only [su_a, upd_a, if_pos, if_neg, if_true, if_false, eq_self_iff_true]; exact hI.snow
  · simp (disch := omega) only [su_a, upd_a, if_pos, if_neg, if_true, if_false, eq_self_iff_true]; exact hI.pl hp
  · simp (disch := omega) only [su_a, upd_a, if_pos, if_neg, if_true, if_false, eq_self_iff_true]; exact hI.ho hh
  · simp (disch := omega) only [su_a, upd_a, if_pos, if_neg, if_true, if_false, eq_self_iff_true]; exact hI.th ht
theorem HB.u_guests {v : St} {w : Nat → Int32} (hI : WInv w) (hB : HB v w) {q : Nat} (hq : q < 2 * nP w) (x : Int32) : HB (su v 14 q x) (upd w (33 + 2 * q) x) := by
  have h5 := hI.p5
  have h10 := hI.t10
  have eP : nP (upd w (33 + 2 * q) x) = nP w := by unfold nP; rw [upd_n _ _ _ (by omega)]
  have eT : nT (upd w (33 + 2 * q) x) = nT w := by unfold nT; rw [upd_n _ _ _ (by omega)]
  unfold HB
  rw [eP, eT]
  refine ⟨?_, ?_, ?_, ?_, ?_, ?_, ?_, ?_, ?_, fun p hp => ?_, fun h hh => ?_, fun t ht => ?_⟩
  · simp (disch := omega) only [su_a, upd_a, if_pos, if_neg, if_true, if_false, eq_self_iff_true]; exact hB.p
  · simp (disch := omega) only [su_a, upd_a, if_pos, if_neg, if_true, if_false, eq_self_iff_true]; exact hB.t
  · simp (disch := omega) only [su_a, upd_a, if_pos, if_neg, if_true, if_false, eq_self_iff_true]; exact hB.snow
  · simp (disch := omega) only [su_a, upd_a, if_pos, if_neg, if_true, if_false, eq_self_iff_true]; exact hB.step
  · simp (disch := omega) only [su_a, upd_a, if_pos, if_neg, if_true, if_false, eq_self_iff_true]; exact hB.fall
  · simp (disch := omega) only [su_a, upd_a, if_pos, if_neg, if_true, if_false, eq_self_iff_true]; exact hB.thieves
  · simp (disch := omega) only [su_a, upd_a, if_pos, if_neg, if_true, if_false, eq_self_iff_true]; exact hB.fee
  · simp (disch := omega) only [su_a, upd_a, if_pos, if_neg, if_true, if_false, eq_self_iff_true]; exact hB.week
  · simp (disch := omega) only [su_a, upd_a, if_pos, if_neg, if_true, if_false, eq_self_iff_true]; exact hB.seed
  · simp (disch := omega) only [su_a, upd_a, if_pos, if_neg, if_true, if_false, eq_self_iff_true]; exact ⟨hB.bears hp, hB.age hp, hB.prop hp, hB.broken hp⟩
  · by_cases e : h = q
    · subst e; simp (disch := omega) only [su_a, upd_a, if_pos, if_neg, if_true, if_false, eq_self_iff_true]; first | exact ⟨hB.purse hh, rfl⟩ | (refine ⟨hB.purse hh, ?_⟩; trivial) | trivial
    · simp (disch := omega) only [su_a, upd_a, if_pos, if_neg, if_true, if_false, eq_self_iff_true]; exact ⟨hB.purse hh, hB.guests hh⟩
  · simp (disch := omega) only [su_a, upd_a, if_pos, if_neg, if_true, if_false, eq_self_iff_true]; exact ⟨hB.weight ht, hB.worth ht, hB.home ht⟩
theorem WInv.u_guests {w : Nat → Int32} (hI : WInv w) {q : Nat} (hq : q < 2 * nP w) (x : Int32) (hx : inB x 0 9) : WInv (upd w (33 + 2 * q) x) := by
  have h5 := hI.p5
  have h10 := hI.t10
  have eP : nP (upd w (33 + 2 * q) x) = nP w := by unfold nP; rw [upd_n _ _ _ (by omega)]
  have eT : nT (upd w (33 + 2 * q) x) = nT w := by unfold nT; rw [upd_n _ _ _ (by omega)]
  unfold WInv
  rw [eP, eT]
  refine ⟨?_, ?_, ?_, ?_, fun p hp => ?_, fun h hh => ?_, fun t ht => ?_⟩
  · simp (disch := omega) only [su_a, upd_a, if_pos, if_neg, if_true, if_false, eq_self_iff_true]; exact hI.1
  · simp (disch := omega) only [su_a, upd_a, if_pos, if_neg, if_true, if_false, eq_self_iff_true]; exact hI.2.1
  · simp (disch := omega) only [su_a, upd_a, if_pos, if_neg, if_true, if_false, eq_self_iff_true]; exact hI.step
  · simp (disch := omega) only [su_a, upd_a, if_pos, if_neg, if_true, if_false, eq_self_iff_true]; exact hI.snow
  · simp (disch := omega) only [su_a, upd_a, if_pos, if_neg, if_true, if_false, eq_self_iff_true]; exact hI.pl hp
  · by_cases e : h = q
    · subst e; simp (disch := omega) only [su_a, upd_a, if_pos, if_neg, if_true, if_false, eq_self_iff_true]; exact hx
    · simp (disch := omega) only [su_a, upd_a, if_pos, if_neg, if_true, if_false, eq_self_iff_true]; exact hI.ho hh
  · simp (disch := omega) only [su_a, upd_a, if_pos, if_neg, if_true, if_false, eq_self_iff_true]; exact hI.th ht
theorem HB.u_home {v : St} {w : Nat → Int32} (hI : WInv w) (hB : HB v w) {q : Nat} (hq : q < nT w) (x : Int32) : HB (su v 17 q x) (upd w (54 + 3 * q) x) := by
  have h5 := hI.p5
  have h10 := hI.t10
  have eP : nP (upd w (54 + 3 * q) x) = nP w := by unfold nP; rw [upd_n _ _ _ (by omega)]
  have eT : nT (upd w (54 + 3 * q) x) = nT w := by unfold nT; rw [upd_n _ _ _ (by omega)]
  unfold HB
  rw [eP, eT]
  refine ⟨?_, ?_, ?_, ?_, ?_, ?_, ?_, ?_, ?_, fun p hp => ?_, fun h hh => ?_, fun t ht => ?_⟩
  · simp (disch := omega) only [su_a, upd_a, if_pos, if_neg, if_true, if_false, eq_self_iff_true]; exact hB.p
  · simp (disch := omega) only [su_a, upd_a, if_pos, if_neg, if_true, if_false, eq_self_iff_true]; exact hB.t
  · simp (disch := omega) only [su_a, upd_a, if_pos, if_neg, if_true, if_false, eq_self_iff_true]; exact hB.snow
  · simp (disch := omega) only [su_a, upd_a, if_pos, if_neg, if_true, if_false, eq_self_iff_true]; exact hB.step
  · simp (disch := omega) only [su_a, upd_a, if_pos, if_neg, if_true, if_false, eq_self_iff_true]; exact hB.fall
  · simp (disch := omega) only [su_a, upd_a, if_pos, if_neg, if_true, if_false, eq_self_iff_true]; exact hB.thieves
  · simp (disch := omega) only [su_a, upd_a, if_pos, if_neg, if_true, if_false, eq_self_iff_true]; exact hB.fee
  · simp (disch := omega) only [su_a, upd_a, if_pos, if_neg, if_true, if_false, eq_self_iff_true]; exact hB.week
  · simp (disch := omega) only [su_a, upd_a, if_pos, if_neg, if_true, if_false, eq_self_iff_true]; exact hB.seed
  · simp (disch := omega) only [su_a, upd_a, if_pos, if_neg, if_true, if_false, eq_self_iff_true]; exact ⟨hB.bears hp, hB.age hp, hB.prop hp, hB.broken hp⟩
  · simp (disch := omega) only [su_a, upd_a, if_pos, if_neg, if_true, if_false, eq_self_iff_true]; exact ⟨hB.purse hh, hB.guests hh⟩
  · by_cases e : t = q
    · subst e; simp (disch := omega) only [su_a, upd_a, if_pos, if_neg, if_true, if_false, eq_self_iff_true]; first | exact ⟨hB.weight ht, hB.worth ht, rfl⟩ | (refine ⟨hB.weight ht, hB.worth ht, ?_⟩; trivial) | trivial
    · simp (disch := omega) only [su_a, upd_a, if_pos, if_neg, if_true, if_false, eq_self_iff_true]; exact ⟨hB.weight ht, hB.worth ht, hB.home ht⟩
theorem WInv.u_home {w : Nat → Int32} (hI : WInv w) {q : Nat} (hq : q < nT w) (x : Int32) (hx : (x = -1 ∨ ∃ h, x = J h ∧ h < 2 * nP w)) : WInv (upd w (54 + 3 * q) x) := by
  have h5 := hI.p5
  have h10 := hI.t10
  have eP : nP (upd w (54 + 3 * q) x) = nP w := by unfold nP; rw [upd_n _ _ _ (by omega)]
  have eT : nT (upd w (54 + 3 * q) x) = nT w := by unfold nT; rw [upd_n _ _ _ (by omega)]
  unfold WInv
  rw [eP, eT]
  refine ⟨?_, ?_, ?_, ?_, fun p hp => ?_, fun h hh => ?_, fun t ht => ?_⟩
  · simp (disch := omega) only [su_a, upd_a, if_pos, if_neg, if_true, if_false, eq_self_iff_true]; exact hI.1
  · simp (disch := omega) only [su_a, upd_a, if_pos, if_neg, if_true, if_false, eq_self_iff_true]; exact hI.2.1
  · simp (disch := omega) only [su_a, upd_a, if_pos, if_neg, if_true, if_false, eq_self_iff_true]; exact hI.step
  · simp (disch := omega) only [su_a, upd_a, if_pos, if_neg, if_true, if_false, eq_self_iff_true]; exact hI.snow
  · simp (disch := omega) only [su_a, upd_a, if_pos, if_neg, if_true, if_false, eq_self_iff_true]; exact hI.pl hp
  · simp (disch := omega) only [su_a, upd_a, if_pos, if_neg, if_true, if_false, eq_self_iff_true]; exact hI.ho hh
  · by_cases e : t = q
    · subst e; simp (disch := omega) only [su_a, upd_a, if_pos, if_neg, if_true, if_false, eq_self_iff_true]; exact ⟨(hI.th ht).1, (hI.th ht).2.1, hx⟩
    · simp (disch := omega) only [su_a, upd_a, if_pos, if_neg, if_true, if_false, eq_self_iff_true]; exact hI.th ht
theorem LR.u {L : St} {w : Nat → Int32} (h : LR L w) {k : Nat} (hk : k < 382) (h3 : k ≠ 3) (x : Int32) : LR L (upd w k x) := h.eq (fun j a b => upd_n _ _ _ (by omega)) (upd_n _ _ _ (by omega))
theorem LWo.u {w : Nat → Int32} (h : LWo w) {k : Nat} (hk : k < 382) (h3 : k ≠ 3) (x : Int32) : LWo (upd w k x) := h.eq (fun j a b => upd_n _ _ _ (by omega)) (upd_n _ _ _ (by omega))
end PUPD
