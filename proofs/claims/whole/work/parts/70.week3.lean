section PWEEK3
theorem Fr.mono {S T : List Nat} {a b : St} (h : Fr S a b) (hs : ∀ f, f ∈ S → f ∈ T) : Fr T a b := fun f hf => h f (fun q => hf (hs f q))
theorem DR.eq' {d : St} {w w' : Nat → Int32} (hD : DR d w) (h0 : w' 10 = w 10) (h : ∀ k, 82 ≤ k → k < 382 → w' k = w k) : DR d w' := by
  obtain ⟨r, h1, h2, h3, h4⟩ := hD
  exact ⟨r, h1, h2, by rw [h0]; exact h3, fun a c ha hc => by rw [h _ (by omega) (by omega)]; exact h4 a c ha hc⟩
theorem payR {n : Nat} (hn : 5000 < n) (U : St) (hI : WInv (U 1)) (hL : LWo (U 1)) :
    Ok (lp (fun (rc10 : Int32 × St → Option (St)) (x10l : Int32 × St) =>
bd (m_X12_houses n x10l.2) (fun t11 =>
(if t11 ≤ x10l.1 then
some x10l.2
else
bd (m_X12_plankOf n x10l.1) (fun t12 =>
bd (m_X12_isBroken n x10l.2 t12) (fun t13 =>
bd ((if t13 = 0 then
bd (m_X12_houseAt n x10l.1 0) (fun t15 =>
bd (m_X12_of n x10l.2 x10l.1 0) (fun t16 =>
bd (m_X12_paysBy n x10l.2 x10l.1) (fun t17 =>
(if ix t15 2080 then nm (su t17.2 1 (t15).toNatClampNeg (x_max 0 (t16 - t17.1))) (fun u19 =>
some u19) else none))))
else
some x10l.2)) (fun (t14 : St) =>
rc10 ((x10l.1 + 1), t14))))))) n (0, U)) (fun r => r 1 = payTo (U 1) (2 * nP (U 1)) ∧ Fr [1, 17] U r) := by
  have h5 := hI.p5
  generalize hw : U 1 = w at hI hL h5 ⊢
  refine ok_forE (fun k x => (J k, x)) (2 * nP w) (fun k x => x 1 = payTo w k ∧ Fr [1, 17] U x) ?_ ?_ (by omega) U rfl ⟨hw, Fr.rfl _ _⟩
  · rintro rc k x hk ⟨hx, hf⟩ ih
    have hI1 : WInv (x 1) := by rw [hx]; exact payTo_I hI (by omega)
    have hL1 : LWo (x 1) := by rw [hx]; exact payTo_L hL (by omega)
    have hA : AG (k / 2) w (x 1) := by rw [hx]; exact payTo_AG w _ _ (by omega) (by omega)
    have hP : nP (x 1) = nP w := hA.eqP
    have eN : payTo w (k + 1) = upd (x 1) (32 + 2 * k) (newP w k) := by rw [hx]; rfl
    have e0 : x 1 (32 + 2 * k) = w (32 + 2 * k) := by rw [hx, payTo_at, if_neg (by omega)]
    simp (disch := omega) only [houses_s n x hI1.p, hP, bd_s, J_le, Nat.not_le.mpr hk, ↓reduceIte, plankOf_s, isBroken_s, hA.broken, J_succ, houseAt_0, of_0, e0]
    by_cases hb : w (15 + 4 * (k / 2)) = 1
    · rw [show b2i (w (15 + 4 * (k / 2)) = 1) = 1 from if_pos hb, if_neg (by decide), bd_s]
      refine ih x ⟨?_, hf⟩
      rw [eN, upd_same]
      rw [e0]; unfold newP; rw [if_pos hb]
    · rw [show b2i (w (15 + 4 * (k / 2)) = 1) = 0 from if_neg hb, if_pos rfl]
      refine ok_bd (ok_bd2 (paysBy_ok hn x hI1 hL1 (h := k) (by omega)) ?_)
      rintro ⟨a, V'⟩ ⟨g, ga⟩
      dsimp only at g ga ⊢
      subst ga
      rw [if_pos (J_ix (by omega) (by omega)), nm_s, J_nat (by omega), hA.pays hI.t10 hL rfl]
      refine ok_some (ih _ ⟨?_, (hf.tr (g.mono (by simp))).put (by simp) _ _⟩)
      rw [su_e, eN, g 1 (by simp)]
      congr 1
      unfold newP; rw [if_neg hb]
  · rintro rc x ⟨hx, hf⟩
    have hI1 : WInv (x 1) := by rw [hx]; exact payTo_I hI (by omega)
    have hP : nP (x 1) = nP w := by rw [hx]; exact (payTo_AG w 0 _ (by omega) (by omega)).eqP
    simp (disch := omega) only [houses_s n x hI1.p, hP, bd_s, J_le, Nat.le_refl, ↓reduceIte]
    exact ok_some ⟨hx, hf⟩
theorem ageR {n : Nat} (hn : 5000 < n) (U : St) (hI : WInv (U 1)) (hL : LWo (U 1)) :
    Ok (lp (fun (rc6 : Int32 × St → Option (St)) (x6l : Int32 × St) =>
bd (m_X12_planks n x6l.2) (fun t7 =>
(if t7 ≤ x6l.1 then
some x6l.2
else
bd (m_X12_ages n x6l.2 x6l.1) (fun t8 =>
rc6 ((x6l.1 + 1), t8))))) n (0, U)) (fun r => r 1 = ageTo (U 1) (nP (U 1)) ∧ Fr [1, 17] U r) := by
  have h5 := hI.p5
  generalize hw : U 1 = w at hI hL h5 ⊢
  refine ok_forE (fun k x => (J k, x)) (nP w) (fun k x => x 1 = ageTo w k ∧ Fr [1, 17] U x) ?_ ?_ (by omega) U rfl ⟨hw, Fr.rfl _ _⟩
  · rintro rc k x hk ⟨hx, hf⟩ ih
    have hI1 : WInv (x 1) := by rw [hx]; exact ageTo_I hI hL (by omega)
    have hP : x 1 0 = J (nP w) := by rw [hx, ageTo_ne w k (fun p hp => by omega)]; exact hI.p
    simp (disch := omega) only [planks_s, hP, bd_s, J_le, Nat.not_le.mpr hk, ↓reduceIte, J_succ]
    refine ok_bd2 (agesR hn x hI hL hk hx) ?_
    rintro V' ⟨g1, g2⟩
    exact ih V' ⟨g1, hf.tr g2⟩
  · rintro rc x ⟨hx, hf⟩
    have hP : x 1 0 = J (nP w) := by rw [hx, ageTo_ne w _ (fun p hp => by omega)]; exact hI.p
    simp (disch := omega) only [planks_s, hP, bd_s, J_le, Nat.le_refl, ↓reduceIte]
    exact ok_some ⟨hx, hf⟩
theorem snowW_P (w : Nat → Int32) : nP (snowW w) = nP w := by unfold nP; rw [snowW_ne w (by omega) (by omega)]
theorem payTo_P (w : Nat → Int32) (K : Nat) : nP (payTo w K) = nP w := by unfold nP; rw [payTo_ne w K (fun h hh => by omega)]
theorem ageTo_P (w : Nat → Int32) (K : Nat) : nP (ageTo w K) = nP w := by unfold nP; rw [ageTo_ne w K (fun h hh => by omega)]
theorem thiefW_P {w : Nat → Int32} (hI : WInv w) : nP (thiefW w) = nP w := by unfold nP; rw [thiefW_lo hI (by omega) (by omega) (by omega)]
theorem weekR {n : Nat} (hn : 5000 < n) (V : St) (hI : WInv (V 1)) (hL : LWo (V 1)) : Ok (m_X12_oneWeek n V 0) (fun r => r 1 = oneW (V 1) ∧ Fr [1, 17] V r) := by
  have h5 := hI.p5
  unfold m_X12_oneWeek
  rw [if_pos rfl, snowR, bd_s, bd_s]
  have hI1 := snowW_I hI
  have hL1 := snowW_L hL
  have e1 : sA V 1 (snowW (V 1)) 1 = snowW (V 1) := sA_e _ _ _
  have f1 : Fr [1, 17] V (sA V 1 (snowW (V 1))) := (Fr.rfl _ _).row (by simp) _
  generalize sA V 1 (snowW (V 1)) = U1 at e1 f1 ⊢
  refine ok_bd2 (payR hn U1 (by rw [e1]; exact hI1) (by rw [e1]; exact hL1)) ?_
  rintro U2 ⟨e2, f2⟩
  rw [e1, snowW_P] at e2
  have hI2 : WInv (U2 1) := by rw [e2]; exact payTo_I hI1 (by omega)
  have hL2 : LWo (U2 1) := by rw [e2]; exact payTo_L hL1 (by omega)
  rw [if_pos rfl]
  refine ok_bd (ok_bd2 (thiefR hn U2 hI2 hL2) ?_)
  rintro U3 ⟨e3, f3⟩
  refine ok_some ?_
  have hI3 : WInv (U3 1) := by rw [e3]; exact thiefW_I hI2
  have hL3 : LWo (U3 1) := by rw [e3]; exact thiefW_L hI2 hL2
  refine ok_bd2 (ageR hn U3 hI3 hL3) ?_
  rintro U4 ⟨e4, f4⟩
  rw [nm_s]
  refine ok_some ⟨?_, (((f1.tr f2).tr f3).tr f4).put (by simp) _ _⟩
  rw [e3, thiefW_P hI2, e2, payTo_P, snowW_P] at e4
  rw [su_e, e4]; rfl
theorem calmR {n : Nat} (hn : 5000 < n) (V : St) (hI : WInv (V 1)) (hL : LWo (V 1)) : Ok (m_X12_oneWeek n V 1) (fun r => r 1 = calmW (V 1) ∧ Fr [1, 17] V r) := by
  have h5 := hI.p5
  unfold m_X12_oneWeek
  rw [if_neg (by decide), bd_s]
  refine ok_bd2 (payR hn V hI hL) ?_
  rintro U2 ⟨e2, f2⟩
  have hI2 : WInv (U2 1) := by rw [e2]; exact payTo_I hI (by omega)
  have hL2 : LWo (U2 1) := by rw [e2]; exact payTo_L hL (by omega)
  rw [if_neg (by decide), bd_s]
  refine ok_bd2 (ageR hn U2 hI2 hL2) ?_
  rintro U4 ⟨e4, f4⟩
  rw [nm_s]
  refine ok_some ⟨?_, (f2.tr f4).put (by simp) _ _⟩
  rw [e2, payTo_P] at e4
  rw [su_e, e4]; rfl
theorem weekW_I {w : Nat → Int32} (hI : WInv w) : WInv (weekW w) := hI.u_week _
theorem oneW_I {w : Nat → Int32} (hI : WInv w) (hL : LWo w) : WInv (oneW w) := by
  have h5 := hI.p5
  have hI2 := payTo_I (snowW_I hI) (K := 2 * nP w) (by omega)
  have hL2 := payTo_L (snowW_L hL) (K := 2 * nP w) (by omega)
  refine weekW_I (ageTo_I (thiefW_I hI2) (thiefW_L hI2 hL2) ?_)
  rw [thiefW_P hI2, payTo_P, snowW_P]; exact Nat.le_refl _
theorem oneW_hi {w : Nat → Int32} (hI : WInv w) {k : Nat} (h : 382 ≤ k ∨ k = 3 ∨ k = 2) : oneW w k = w k := by
  have h5 := hI.p5
  have hI2 := payTo_I (snowW_I hI) (K := 2 * nP w) (by omega)
  unfold oneW weekW
  rw [upd_n _ _ _ (by omega), ageTo_ne _ _ (fun p hp => by omega)]
  have : thiefW (payTo (snowW w) (2 * nP w)) k = payTo (snowW w) (2 * nP w) k := by
    rcases h with h | h | h
    · exact thiefW_hi hI2 h
    · exact thiefW_lo hI2 (by omega) (by omega) (by omega)
    · exact thiefW_lo hI2 (by omega) (by omega) (by omega)
  rw [this, payTo_ne _ _ (fun p hp => by omega), snowW_ne _ (by omega) (by omega)]
theorem oneW_L {w : Nat → Int32} (hI : WInv w) (hL : LWo w) : LWo (oneW w) := hL.eq (fun k a b => oneW_hi hI (.inl a)) (oneW_hi hI (.inr (.inl rfl)))
theorem oneW_LR {L : St} {w : Nat → Int32} (hI : WInv w) (hL : LR L w) : LR L (oneW w) := hL.eq (fun k a b => oneW_hi hI (.inl a)) (oneW_hi hI (.inr (.inl rfl)))
theorem calmW_hi {w : Nat → Int32} (hI : WInv w) {k : Nat} (h : 82 ≤ k ∨ k = 3 ∨ k = 2 ∨ k = 10 ∨ k = 11) : calmW w k = w k := by
  have h5 := hI.p5
  unfold calmW weekW
  rw [upd_n _ _ _ (by omega), ageTo_ne _ _ (fun p hp => by omega), payTo_ne _ _ (fun p hp => by omega)]
theorem calmW_I {w : Nat → Int32} (hI : WInv w) (hL : LWo w) : WInv (calmW w) := by
  have h5 := hI.p5
  refine weekW_I (ageTo_I (payTo_I hI (by omega)) (payTo_L hL (by omega)) ?_)
  rw [payTo_P]; exact Nat.le_refl _
theorem calmW_L {w : Nat → Int32} (hI : WInv w) (hL : LWo w) : LWo (calmW w) := hL.eq (fun k a b => calmW_hi hI (.inl (by omega))) (calmW_hi hI (.inr (.inl rfl)))
-- the class
theorem pay1X {n : Nat} (hn : 5000 < n) {w : Nat → Int32} (hI : WInv w) {v L : St} (hL : LR L w) {p : Nat} (hp : p < nP w) (hR : HR v (payTo w (2 * p))) :
    Ok (m_X3_payRents n v L (J p)) (fun r => HR r.1 (payTo w (2 * p + 2)) ∧ Fr [6] L r.2 ∧ Fr [13] v r.1) := by
  have h5 := hI.p5
  have hLo := hL.o
  have hA0 : AG p w (payTo w (2 * p)) := payTo_AG w p _ (by omega) (by omega)
  have hP : ∀ K, nP (payTo w K) = nP w := payTo_P w
  unfold m_X3_payRents
  rw [if_pos (J_ix (by omega) (by omega)), J_nat (by omega), hR.2.1.broken (p := p) (by rw [hP]; exact hp), hA0.broken]
  by_cases hb : w (15 + 4 * p) = 1
  · rw [hb, if_neg (by decide)]
    refine ok_some ⟨?_, Fr.rfl _ _, Fr.rfl _ _⟩
    dsimp only
    have e1 : payTo w (2 * p + 1) = payTo w (2 * p) := by
      show upd (payTo w (2 * p)) (32 + 2 * (2 * p)) (newP w (2 * p)) = _
      apply upd_same; rw [payTo_at, if_neg (by omega)]; unfold newP; rw [if_pos]; rw [show 2 * p / 2 = p from by omega]; exact hb
    have e2 : payTo w (2 * p + 2) = payTo w (2 * p + 1) := by
      show upd (payTo w (2 * p + 1)) (32 + 2 * (2 * p + 1)) (newP w (2 * p + 1)) = _
      apply upd_same; rw [payTo_at, if_neg (by omega)]; unfold newP; rw [if_pos]; rw [show (2 * p + 1) / 2 = p from by omega]; exact hb
    rw [e2, e1]; exact hR
  · have hb0 : w (15 + 4 * p) = 0 := by
      rcases (hI.pl hp).2.2.2 with h | h
      · exact h
      · exact absurd h hb
    rw [hb0, if_pos rfl, nm_s, J_dbl]
    refine ok_forE (fun k (x : St × St) => (J (2 * p + k), x.1, x.2)) 2 (fun k x => HR x.1 (payTo w (2 * p + k)) ∧ Fr [6] L x.2 ∧ Fr [13] v x.1) ?_ ?_ (by omega) (v, L) rfl ⟨hR, Fr.rfl _ _, Fr.rfl _ _⟩
    · rintro rc k ⟨x, L'⟩ hk ⟨hx, hfL, hfv⟩ ih
      dsimp only at hx hfL hfv
      have hA : AG p w (payTo w (2 * p + k)) := payTo_AG w p _ (by omega) (by omega)
      have hq : 2 * p + k < 2 * nP (payTo w (2 * p + k)) := by rw [hP]; omega
      have e0 : ¬ J (2 * p) + 2 ≤ J (2 * p + k) := by rw [show (2 : Int32) = J 2 from rfl, J_add, J_le (by omega) (by omega)]; omega
      have eh : (2 * p + k) / 2 = p := by omega
      have hL' : LR L' (payTo w (2 * p + k)) := (hL.fr hfL).eq (fun j a b => payTo_ne w _ (fun h hh => by omega)) (payTo_ne w _ (fun h hh => by omega))
      simp (disch := omega) only [e0, ↓reduceIte, ix_J, J_nat]
      refine ok_bd2 (XpaysBy1 hn hL' (hx.hf hq) hx.2.1.fee (by omega)) ?_
      rintro ⟨a, L2⟩ ⟨g, ga⟩
      dsimp only at g ga ⊢
      subst ga
      rw [nm_s, hx.2.1.purse hq, hA.pays hI.t10 hLo eh, payTo_at, if_neg (by omega), J_succ (2 * p + k)]
      have en : x_max 0 (w (32 + 2 * (2 * p + k)) - paysS w (2 * p + k)) = newP w (2 * p + k) := by unfold newP; rw [eh, if_neg hb]
      rw [en]
      have ih' : ∀ y : St, HR y (payTo w (2 * p + (k + 1))) → Fr [13] v y → Ok (rc (J (2 * p + (k + 1)), y, L2)) (fun r => HR r.1 (payTo w (2 * p + 2)) ∧ Fr [6] L r.2 ∧ Fr [13] v r.1) := fun y h1 h2 => ih (y, L2) ⟨h1, hfL.tr g, h2⟩
      refine ih' _ ?_ (hfv.put (by simp) _ _)
      have eN : payTo w (2 * p + (k + 1)) = upd (payTo w (2 * p + k)) (32 + 2 * (2 * p + k)) (newP w (2 * p + k)) := rfl
      have hI2 : WInv (payTo w (2 * p + (k + 1))) := payTo_I hI (by omega)
      have hB2 := hx.2.1.u_purse hx.1 hq (newP w (2 * p + k))
      rw [← eN] at hB2
      refine ⟨hI2, hB2, ?_⟩
      refine HW.ag hx.1.t10 (w := payTo w (2 * p + k)) ?_ (fun p' hp' => ?_) (by rw [hP, hP])
      · intro q hq'
        rw [su_n _ _ _ _ (by decide), su_n _ _ _ _ (by decide)]; exact hx.2.2 q hq'
      · rw [hP] at hp'
        exact (payTo_AG w p' _ (by omega) (by omega)).symm.trans (payTo_AG w p' _ (by omega) (by omega))
    · rintro rc ⟨x, L'⟩ ⟨hx, hfL, hfv⟩
      have e0 : J (2 * p) + 2 ≤ J (2 * p + 2) := by rw [show (2 : Int32) = J 2 from rfl, J_add, J_le (by omega) (by omega)]; omega
      simp only [e0, ↓reduceIte]
      exact ok_some ⟨hx, hfL, hfv⟩
theorem cmpB {a b x y : Nat} (ha : a ≤ 99) (hb : b ≤ 400) (hx : x ≤ 744) (hy : y ≤ 744) : 0 ≤ J b - J a - J x - J y ↔ J x + J y ≤ J b - J a := by
  have e1 : (J b - J a).toInt = (b : Int) - a := by rw [Int32.toInt_sub, J_toInt (by omega), J_toInt (by omega), Int.bmod_eq_of_le (by omega) (by omega)]
  have e2 : (J b - J a - J x).toInt = (b : Int) - a - x := by rw [Int32.toInt_sub, e1, J_toInt (by omega), Int.bmod_eq_of_le (by omega) (by omega)]
  have e3 : (J b - J a - J x - J y).toInt = (b : Int) - a - x - y := by rw [Int32.toInt_sub, e2, J_toInt (by omega), Int.bmod_eq_of_le (by omega) (by omega)]
  rw [Int32.le_iff_toInt_le, Int32.le_iff_toInt_le, e1, e3, J_add, J_toInt (by omega), show (0 : Int32).toInt = 0 from by decide]
  omega
theorem age1X {n : Nat} (hn : 5000 < n) {w : Nat → Int32} (hI : WInv w) {v0 v L : St} (hL : LR L w) {p : Nat} (hp : p < nP w) (hB : HB v (ageTo w p)) (hW : HW v0 w) (hf : Fr [10, 12] v0 v) :
    Ok (m_X3_growOld n v L (J p)) (fun r => HB r.1 (ageTo w (p + 1)) ∧ Fr [10, 12] v0 r.1 ∧ Fr [6] L r.2 ∧ Fr [10, 12] v r.1) := by
  have h5 := hI.p5
  have hLo := hL.o
  have hA : AG p w (ageTo w p) := ageTo_AG w p p (by omega) (Nat.le_refl _)
  have hI1 : WInv (ageTo w p) := ageTo_I hI hLo (by omega)
  have hP : nP (ageTo w p) = nP w := ageTo_P w p
  have hp1 : p < nP (ageTo w p) := by rw [hP]; exact hp
  have eN : ageTo w (p + 1) = upd (upd (ageTo w p) (13 + 4 * p) (newA w p)) (15 + 4 * p) (newB w p) := rfl
  rw [eN]
  have e18 : ∀ q, q < 2 * nP w → v 18 q = loadS w q := fun q hq => by rw [hf 18 (by simp)]; exact (hW q hq).1
  have e19 : ∀ q, q < 2 * nP w → v 19 q = heightS w q := fun q hq => by rw [hf 19 (by simp)]; exact (hW q hq).2
  unfold m_X3_growOld
  simp (disch := omega) only [ix_J, ↓reduceIte, J_nat]
  rw [hB.broken hp1, hA.broken]
  by_cases hb : w (15 + 4 * p) = 1
  · rw [hb, if_neg (by decide)]
    refine ok_some ⟨?_, hf, Fr.rfl _ _, Fr.rfl _ _⟩
    have e1 : ageTo w p (13 + 4 * p) = newA w p := by unfold newA; rw [if_pos hb]; exact hA.age
    have e2 : ageTo w p (15 + 4 * p) = newB w p := by unfold newB; rw [if_pos hb, hA.broken]; exact hb
    dsimp only
    rw [upd_same _ e1, upd_same _ e2]; exact hB
  · have hb0 : w (15 + 4 * p) = 0 := by
      rcases (hI.pl hp).2.2.2 with h | h
      · exact h
      · exact absurd h hb
    rw [hb0, if_pos rfl]
    have hF : HF v w (2 * p) := ⟨e19 _ (by omega), e18 _ (by omega), by rw [hB.guests (by rw [hP]; omega)]; exact hA.guests (by omega), by
      rw [show 2 * p / 2 = p from by omega, hB.age hp1]; exact hA.age, by rw [hB.week]; exact hA.1 4 (by omega) (by omega)⟩
    refine ok_bd2 (XagesBy1 hn hL hF (by omega)) ?_
    rintro ⟨a, L2⟩ ⟨g, ga⟩
    dsimp only at g ga ⊢
    subst ga
    rw [nm_s, hB.age hp1, hA.age]
    have en : x_min 99 (w (13 + 4 * p) + agesS w p) = newA w p := by unfold newA; rw [if_neg hb]
    rw [en]
    have hB2 := hB.u_age hI1 hp1 (newA w p)
    have hI2 := hI1.u_age hp1 (newA w p) (newA_b hI hLo hp)
    have hf2 : Fr [10, 12] v0 (su v 10 p (newA w p)) := hf.put (by simp) _ _
    have hf3 : Fr [10, 12] v (su v 10 p (newA w p)) := (Fr.rfl _ _).put (by simp) _ _
    have ep : p < nP (upd (ageTo w p) (13 + 4 * p) (newA w p)) := by
      rw [show nP (upd (ageTo w p) (13 + 4 * p) (newA w p)) = nP (ageTo w p) from by unfold nP; rw [upd_n _ _ _ (by omega)]]; exact hp1
    have u18 : ∀ q, q < 2 * nP w → su v 10 p (newA w p) 18 q = loadS w q := fun q hq => by rw [su_n _ _ _ _ (by decide)]; exact e18 q hq
    have u10 : su v 10 p (newA w p) 10 p = newA w p := by rw [su_e, upd_e]
    have u9 : su v 10 p (newA w p) 9 p = w (12 + 4 * p) := by rw [su_n _ _ _ _ (by decide), hB.bears hp1]; exact hA.bears
    generalize su v 10 p (newA w p) = U at hB2 hf2 hf3 u18 u10 u9 ⊢
    have hbm : m_X3_bearsMore n U (J p) = some (w (12 + 4 * p) - newA w p - loadS w (2 * p) - loadS w (2 * p + 1)) := by
      unfold m_X3_bearsMore
      simp (disch := omega) only [J_dbl, J_dbl1, ix_J, ↓reduceIte, J_nat, u18, u10, u9]
    rw [hbm, bd_s]
    obtain ⟨a, ea, -, ha⟩ := newA_b hI hLo hp
    obtain ⟨b, eb, -, hb2⟩ := (hI.pl hp).1
    obtain ⟨x, hx, ex⟩ := load_b hI (h := 2 * p) (by omega)
    obtain ⟨y, hy, ey⟩ := load_b hI (h := 2 * p + 1) (by omega)
    have hc := cmpB ha hb2 hx hy
    rw [← ea, ← eb, ← ex, ← ey] at hc
    by_cases hq : loadS w (2 * p) + loadS w (2 * p + 1) ≤ w (12 + 4 * p) - newA w p
    · rw [if_pos (hc.mpr hq), nm_s]
      have eB : newB w p = zb 0 := by unfold newB; rw [if_neg hb, if_pos hq]; decide
      rw [eB]
      exact ok_some ⟨hB2.u_broken hI2 ep _, hf2.put (by simp) _ _, g, hf3.put (by simp) _ _⟩
    · rw [if_neg (fun h => hq (hc.mp h)), nm_s]
      have eB : newB w p = zb 1 := by unfold newB; rw [if_neg hb, if_neg hq]; decide
      rw [eB]
      exact ok_some ⟨hB2.u_broken hI2 ep _, hf2.put (by simp) _ _, g, hf3.put (by simp) _ _⟩
theorem turnX {n : Nat} (hn : 5000 < n) {w : Nat → Int32} (hI : WInv w) {v : St} (hB : HB v w) : Ok (m_X3_turnWeek n v) (fun r => HR r (weekW w)) := by
  unfold m_X3_turnWeek
  rw [nm_s, hB.week]
  have hB2 := hB.u_week hI (x_min 9999 (w 4 + 1))
  have hI2 : WInv (weekW w) := weekW_I hI
  refine ok_bd2 (Xweigh hn hI2 hB2) ?_
  rintro v' ⟨f1, f2⟩
  exact ok_some ⟨hI2, hB2.fr f1 (by simp), f2⟩
theorem HW.fr {v v' : St} {w : Nat → Int32} (h : HW v w) {S : List Nat} (hf : Fr S v v') (h1 : 18 ∉ S) (h2 : 19 ∉ S) : HW v' w := by
  intro q hq
  rw [hf 18 h1, hf 19 h2]; exact h q hq
theorem passX {n : Nat} (hn : 5000 < n) {v L D : St} {w : Nat → Int32} (hI : WInv w) (hB : HB v w) (hL : LR L w) (hD : DW D) :
    Ok (m_X3_passWeek n v L D) (fun r => r.1 = thiefB (payTo (snowW w) (2 * nP w)) ∧ HR r.2.1 (oneW w) ∧ Fr [6] L r.2.2.1 ∧ DW r.2.2.2 ∧ (DR D w → DR r.2.2.2 (oneW w))) := by
  have h5 := hI.p5
  unfold m_X3_passWeek
  rw [drawX, bd_s]
  dsimp only
  -- snow
  refine ok_bd2 (P := fun x => HB x (snowW w)) ?_ ?_
  · have hB1 := hB.u_seed hI (drS (v 8 0))
    rw [hB.seed] at hB1 ⊢
    have e4 : su v 8 0 (drS (w 11)) 4 0 = w 7 := by rw [su_n _ _ _ _ (by decide)]; exact hB.fall
    have e2 : su v 8 0 (drS (w 11)) 2 0 = w 5 := by rw [su_n _ _ _ _ (by decide)]; exact hB.snow
    have e8 : su v 8 0 (drS (w 11)) 8 0 = drS (w 11) := by rw [su_e, upd_e]
    generalize su v 8 0 (drS (w 11)) = U at hB1 e4 e2 e8 ⊢
    have hI1 := hI.u_seed (drS (w 11))
    unfold snowW
    by_cases h : w 7 ≤ x_rem (drV (drS (w 11))) 100
    · simp only [e4, e2, h, ↓reduceIte, nm_s]
      exact ok_some (hB1.u_snow hI1 _)
    · simp only [e4, e2, h, ↓reduceIte, drawX, bd_s, nm_s, e8]
      refine ok_some ?_
      have hB3 := hB1.u_seed hI1 (drS (drS (w 11)))
      rw [upd_upd] at hB3
      exact hB3.u_snow (hI.u_seed _) _
  rintro v2 hB2
  have hI2 := snowW_I hI
  have hL2 : LR L (snowW w) := hL.eq (fun k a b => snowW_ne w (by omega) (by omega)) (snowW_ne w (by omega) (by omega))
  have hLo2 := hL2.o
  have hP2 : nP (snowW w) = nP w := snowW_P w
  have hD2 : DR D w → DR D (snowW w) := fun h => h.eq' (snowW_ne w (by omega) (by omega)) (fun k a b => snowW_ne w (by omega) (by omega))
  have eB : thiefB (payTo (snowW w) (2 * nP w)) = thiefB (payTo (snowW w) (2 * nP (snowW w))) := by rw [hP2]
  have eW : oneW w = weekW (ageTo (thiefW (payTo (snowW w) (2 * nP (snowW w)))) (nP (snowW w))) := by rw [hP2]; rfl
  rw [eB, eW]
  rw [← hP2] at h5
  generalize snowW w = s at hB2 hI2 hL2 hLo2 hD2 h5 ⊢
  refine ok_bd2 (Xweigh hn hI2 hB2) ?_
  rintro v3 ⟨f3, hW3⟩
  have hR3 : HR v3 s := ⟨hI2, hB2.fr f3 (by simp), hW3⟩
  -- rents
  refine ok_bd2 (P := fun x => HR x.1 (payTo s (2 * nP s)) ∧ Fr [6] L x.2) ?_ ?_
  · refine ok_forE (fun k (x : St × St) => (J k, x.1, x.2)) (nP s) (fun k x => HR x.1 (payTo s (2 * k)) ∧ Fr [6] L x.2) ?_ ?_ (by omega) (v3, L) rfl ⟨hR3, Fr.rfl _ _⟩
    · rintro rc k ⟨x, L'⟩ hk ⟨hx, hfL⟩ ih
      dsimp only at hx hfL
      have e0 : x 0 0 = J (nP s) := by rw [hx.2.1.p, payTo_ne s _ (fun p hp => by omega)]; exact hI2.p
      simp (disch := omega) only [e0, J_le, Nat.not_le.mpr hk, ↓reduceIte, J_succ k]
      refine ok_bd2 (pay1X hn hI2 (hL2.fr hfL) hk hx) ?_
      rintro ⟨x2, L2⟩ ⟨g1, g2, -⟩
      exact ih (x2, L2) ⟨g1, hfL.tr g2⟩
    · rintro rc ⟨x, L'⟩ ⟨hx, hfL⟩
      dsimp only at hx hfL
      have e0 : x 0 0 = J (nP s) := by rw [hx.2.1.p, payTo_ne s _ (fun p hp => by omega)]; exact hI2.p
      simp (disch := omega) only [e0, J_le, Nat.le_refl, ↓reduceIte]
      exact ok_some ⟨hx, hfL⟩
  rintro ⟨v4, L4⟩ ⟨hR4, fL4⟩
  dsimp only at hR4 fL4 ⊢
  have hL4 : LR L4 (payTo s (2 * nP s)) := (hL2.fr fL4).eq (fun k a b => payTo_ne s _ (fun p hp => by omega)) (payTo_ne s _ (fun p hp => by omega))
  have hD4 : DR D w → DR D (payTo s (2 * nP s)) := fun h => (hD2 h).eq' (payTo_ne s _ (fun p hp => by omega)) (fun k a b => payTo_ne s _ (fun p hp => by omega))
  have hP4 : nP (payTo s (2 * nP s)) = nP s := payTo_P s _
  generalize payTo s (2 * nP s) = r at hR4 hL4 hD4 hP4 ⊢
  rw [← hP4] at h5 ⊢
  -- the thief
  rw [drawX, bd_s]
  dsimp only
  have hI4 := hR4.1
  have hB5 := hR4.2.1.u_seed hI4 (drS (r 11))
  rw [hR4.2.1.seed]
  have hI5 := hI4.u_seed (drS (r 11))
  have hA5 : ∀ p, p < nP r → AG p r (upd r 11 (drS (r 11))) := fun p hp => ⟨fun k a b => upd_n _ _ _ (by omega), fun k a b => upd_n _ _ _ (by omega), fun k a b => upd_n _ _ _ (by omega), fun k a => upd_n _ _ _ (by omega), upd_n _ _ _ (by omega), upd_n _ _ _ (by omega)⟩
  have hP5 : nP (upd r 11 (drS (r 11))) = nP r := by unfold nP; rw [upd_n _ _ _ (by omega)]
  have hR5 : HR (su v4 8 0 (drS (r 11))) (upd r 11 (drS (r 11))) := ⟨hI5, hB5, HW.ag hI4.t10 (hR4.2.2.fr ((Fr.rfl [8] v4).put (by simp) _ _) (by simp) (by simp)) hA5 hP5⟩
  have hL5 : LR L4 (upd r 11 (drS (r 11))) := hL4.u (by omega) (by omega) _
  have hD5 : DR D w → DR D (upd r 11 (drS (r 11))) := fun h => (hD4 h).eq' (upd_n _ _ _ (by omega)) (fun k a b => upd_n _ _ _ (by omega))
  have e5 : su v4 8 0 (drS (r 11)) 5 0 = r 8 := by rw [su_n _ _ _ _ (by decide)]; exact hR4.2.1.thieves
  generalize su v4 8 0 (drS (r 11)) = v5 at hR5 e5 ⊢
  refine ok_bd2 (P := fun x => x.1 = (if x_rem (drV (drS (r 11))) 100 < r 8 then luredS (upd r 11 (drS (r 11))) 0 else -1) ∧ Fr [6] L4 x.2) ?_ ?_
  · by_cases h : x_rem (drV (drS (r 11))) 100 < r 8
    · have h' : ¬ r 8 ≤ x_rem (drV (drS (r 11))) 100 := by grind
      simp only [e5, h, h', ↓reduceIte]
      exact ok_bd2 (luredX hn hL5 hR5 0) (fun a ha => ok_some ⟨ha.2, ha.1⟩)
    · have h' : r 8 ≤ x_rem (drV (drS (r 11))) 100 := by grind
      simp only [e5, h, h', ↓reduceIte]
      exact ok_some ⟨rfl, Fr.rfl _ _⟩
  rintro ⟨x6, L6⟩ ⟨rfl, fL6⟩
  dsimp only at fL6 ⊢
  rw [dearX hn hR5.1 hR5.2.1, bd_s]
  have e7 : (if (if x_rem (drV (drS (r 11))) 100 < r 8 then luredS (upd r 11 (drS (r 11))) 0 else -1) = -1 then -1 else dearS (upd r 11 (drS (r 11))) (if x_rem (drV (drS (r 11))) 100 < r 8 then luredS (upd r 11 (drS (r 11))) 0 else -1)) = (if x_rem (drV (drS (r 11))) 100 < r 8 then stS (upd r 11 (drS (r 11))) 0 else -1) := by
    by_cases h : x_rem (drV (drS (r 11))) 100 < r 8
    · simp only [h, ↓reduceIte]; rfl
    · simp only [h, ↓reduceIte]
  rw [e7]
  have hPt : nP (thiefW r) = nP r := thiefW_P hI4
  refine ok_bd2 (P := fun x => HR x.1 (thiefW r) ∧ DW x.2 ∧ (DR D w → DR x.2 (thiefW r))) ?_ ?_
  · unfold thiefW
    by_cases h : x_rem (drV (drS (r 11))) 100 < r 8
    · simp only [h, ↓reduceIte]
      rcases stS_cases (upd r 11 (drS (r 11))) 0 with q | ⟨t, ht, q⟩
      · simp only [q, ↓reduceIte]
        exact ok_some ⟨hR5, hD, hD5⟩
      · have h10 := hR5.1.t10
        have hne := J_ne_neg (k := t) (by omega)
        simp only [q, hne, ↓reduceIte]
        refine ok_bd2 (addRow_ok hD (v5 7 0) (J t) (luredS (upd r 11 (drS (r 11))) 0) (-1)) ?_
        rintro D' ⟨d1, d2⟩
        rw [if_pos (J_ix (by omega) (by omega)), nm_s, J_nat (by omega)]
        have ew : stlW (upd r 11 (drS (r 11))) 0 = upd (upd r 11 (drS (r 11))) (54 + 3 * t) (-1) := by unfold stlW; rw [q, if_neg hne, J_nat (by omega)]
        have hI7 := stW_I hR5.1 0
        have hB7 := hR5.2.1.u_home hR5.1 ht (-1)
        rw [← ew] at hB7
        refine ok_bd2 (Xweigh hn hI7 hB7) ?_
        rintro v7 ⟨f7, hW7⟩
        refine ok_some ⟨?_, d1, fun hd => ?_⟩
        · refine ⟨tell_I hI7 _ _ _ _, tell_B hI7 (hB7.fr f7 (by simp)) _ _ _ _, ?_⟩
          refine HW.ag hI7.t10 hW7 (fun p hp => ?_) (by unfold nP; rw [tellW_lo _ _ _ _ _ (by omega) (by omega)])
          have hp5 := hI7.p5
          exact ⟨fun k a b => tellW_lo _ _ _ _ _ (by omega) (by omega), fun k a b => tellW_lo _ _ _ _ _ (by omega) (by omega), fun k a b => tellW_hi _ _ _ _ _ (by omega), fun k a => tellW_lo _ _ _ _ _ (by omega) (by omega), tellW_lo _ _ _ _ _ (by omega) (by omega), tellW_lo _ _ _ _ _ (by omega) (by omega)⟩
        · have hd7 : DR D (stlW (upd r 11 (drS (r 11))) 0) := (hD5 hd).eq' (stW_ne hR5.1 0 (.inl (by omega))) (fun k a b => stW_ne hR5.1 0 (.inr a))
          exact d2 _ hd7 (by rw [hR5.2.1.week, stW_ne hR5.1 0 (.inl (by omega))])
    · simp only [h, ↓reduceIte]
      exact ok_some ⟨hR5, hD, hD5⟩
  rintro ⟨v8, D8⟩ ⟨hR8, hD8, hDD8⟩
  dsimp only at hR8 hD8 hDD8 ⊢
  have eT : (if (if x_rem (drV (drS (r 11))) 100 < r 8 then stS (upd r 11 (drS (r 11))) 0 else -1) = -1 then (0 : Int32) else 1) = thiefB r := by
    unfold thiefB
    by_cases h : x_rem (drV (drS (r 11))) 100 < r 8
    · simp only [h, ↓reduceIte]
    · simp only [h, ↓reduceIte]
  generalize (if x_rem (drV (drS (r 11))) 100 < r 8 then stS (upd r 11 (drS (r 11))) 0 else -1) = tt at eT ⊢
  have hL8 : LR L6 (thiefW r) := (hL4.fr fL6).eq (fun k a b => thiefW_hi hI4 a) (thiefW_lo hI4 (by omega) (by omega) (by omega))
  rw [← hPt]
  rw [← hPt] at h5
  generalize thiefW r = z at hR8 hL8 hDD8 h5 ⊢
  -- ages
  refine ok_bd2 (P := fun x => HB x.1 (ageTo z (nP z)) ∧ Fr [6] L6 x.2) ?_ ?_
  · refine ok_forE (fun k (x : St × St) => (J k, x.1, x.2)) (nP z) (fun k x => HB x.1 (ageTo z k) ∧ Fr [10, 12] v8 x.1 ∧ Fr [6] L6 x.2) ?_ ?_ (by omega) (v8, L6) rfl ⟨hR8.2.1, Fr.rfl _ _, Fr.rfl _ _⟩
    · rintro rc k ⟨x, L'⟩ hk ⟨hx, hfx, hfL⟩ ih
      dsimp only at hx hfx hfL
      have e0 : x 0 0 = J (nP z) := by rw [hx.p, ageTo_ne z _ (fun p hp => by omega)]; exact hR8.1.p
      simp (disch := omega) only [e0, J_le, Nat.not_le.mpr hk, ↓reduceIte, J_succ k]
      refine ok_bd2 (age1X hn hR8.1 (hL8.fr hfL) hk hx hR8.2.2 hfx) ?_
      rintro ⟨x2, L2⟩ ⟨g1, g2, g3, -⟩
      exact ih (x2, L2) ⟨g1, g2, hfL.tr g3⟩
    · rintro rc ⟨x, L'⟩ ⟨hx, hfx, hfL⟩
      dsimp only at hx hfx hfL
      have e0 : x 0 0 = J (nP z) := by rw [hx.p, ageTo_ne z _ (fun p hp => by omega)]; exact hR8.1.p
      simp (disch := omega) only [e0, J_le, Nat.le_refl, ↓reduceIte]
      exact ok_some ⟨hx, hfL⟩
  rintro ⟨v9, L9⟩ ⟨hB9, fL9⟩
  dsimp only at hB9 fL9 ⊢
  have hLo8 := hL8.o
  refine ok_bd2 (turnX hn (ageTo_I hR8.1 hLo8 (Nat.le_refl _)) hB9) ?_
  rintro v10 hR10
  have hDD : DR D w → DR D8 (weekW (ageTo z (nP z))) := fun h => (hDD8 h).eq' (by unfold weekW; rw [upd_n _ _ _ (by omega), ageTo_ne z _ (fun p hp => by omega)]) (fun k a b => by unfold weekW; rw [upd_n _ _ _ (by omega), ageTo_ne z _ (fun p hp => by omega)])
  by_cases ht : tt = -1
  · rw [if_pos ht] at eT ⊢
    exact ⟨_, rfl, eT, hR10, (fL4.tr fL6).tr fL9, hD8, hDD⟩
  · rw [if_neg ht] at eT ⊢
    exact ⟨_, rfl, eT, hR10, (fL4.tr fL6).tr fL9, hD8, hDD⟩
end PWEEK3
