section PWEEK2
-- the thief
def stS (w : Nat → Int32) (g : Int32) : Int32 := if luredS w g = -1 then -1 else dearS w (luredS w g)
def stlW (w : Nat → Int32) (g : Int32) : Nat → Int32 := if stS w g = -1 then w else upd w (54 + 3 * (stS w g).toNatClampNeg) (-1)
theorem stS_cases (w : Nat → Int32) (g : Int32) : stS w g = -1 ∨ ∃ t, t < nT w ∧ stS w g = J t := by
  unfold stS
  split
  · exact .inl rfl
  · rcases dearS_cases w (luredS w g) with h | ⟨t, ht, h, -⟩
    · exact .inl h
    · exact .inr ⟨t, ht, h⟩
theorem stW_I {w : Nat → Int32} (hI : WInv w) (g : Int32) : WInv (stlW w g) := by
  have h10 := hI.t10
  unfold stlW
  rcases stS_cases w g with h | ⟨t, ht, h⟩
  · rw [if_pos h]; exact hI
  · rw [h, if_neg (J_ne_neg (by omega)), J_nat (by omega)]
    exact hI.u_home ht _ (.inl rfl)
theorem stW_ne {w : Nat → Int32} (hI : WInv w) (g : Int32) {k : Nat} (hk : k < 52 ∨ 82 ≤ k) : stlW w g k = w k := by
  have h10 := hI.t10
  unfold stlW
  rcases stS_cases w g with h | ⟨t, ht, h⟩
  · rw [if_pos h]
  · rw [h, if_neg (J_ne_neg (by omega)), J_nat (by omega), upd_n _ _ _ (by omega)]
theorem stW_L {w : Nat → Int32} (hI : WInv w) (hL : LWo w) (g : Int32) : LWo (stlW w g) := hL.eq (fun k a b => stW_ne hI g (.inr (by omega))) (stW_ne hI g (.inl (by omega)))
theorem stR {n : Nat} (hn : 5000 < n) (V : St) (hI : WInv (V 1)) (hL : LWo (V 1)) (g : Int32) : Ok (m_X12_steals n V g) (fun r => r.1 = stS (V 1) g ∧ r.2 1 = stlW (V 1) g ∧ Fr [1, 17] V r.2) := by
  have h10 := hI.t10
  unfold m_X12_steals
  refine ok_bd2 (luredR hn V hI hL g) ?_
  rintro ⟨a, V'⟩ ⟨hf, ha⟩
  dsimp only at hf ha ⊢
  subst ha
  have e1 : V' 1 = V 1 := hf 1 (by simp)
  have hf' : Fr [1, 17] V V' := fun f h => hf f (fun q => h (by simp at q ⊢; exact .inr q))
  have e2 : (if luredS (V 1) g = -1 then some (-1) else bd (m_X12_dearestIn n V' (luredS (V 1) g)) (fun t6 => some t6)) = some (stS (V 1) g) := by
    unfold stS
    split
    · rfl
    · rw [dearR hn (by rw [e1]; exact hI), e1, bd_s]
  rw [e2, bd_s]
  rcases stS_cases (V 1) g with h | ⟨t, ht, h⟩
  · rw [h, if_pos rfl]
    refine ok_some ⟨rfl, ?_, hf'⟩
    unfold stlW; rw [if_pos h]; exact e1
  · rw [h, if_neg (J_ne_neg (by omega)), thingAt_2, bd_s, if_pos (J_ix (by omega) (by omega)), J_nat (by omega)]
    refine ok_some ⟨rfl, ?_, hf'.put (by simp) _ _⟩
    dsimp only
    rw [su_e, e1]
    unfold stlW; rw [h, if_neg (J_ne_neg (by omega)), J_nat (by omega)]
theorem stX {n : Nat} (hn : 5000 < n) {L v : St} {w : Nat → Int32} (hL : LR L w) (hR : HR v w) (g : Int32) : Ok (m_X3_stealOne n v L g) (fun r => r.1 = stS w g ∧ HR r.2.1 (stlW w g) ∧ Fr [6] L r.2.2) := by
  have h10 := hR.1.t10
  unfold m_X3_stealOne
  refine ok_bd2 (luredX hn hL hR g) ?_
  rintro ⟨a, L'⟩ ⟨hf, ha⟩
  dsimp only at hf ha ⊢
  subst ha
  rw [dearX hn hR.1 hR.2.1, bd_s]
  have e2 : (if luredS w g = -1 then -1 else dearS w (luredS w g)) = stS w g := rfl
  rw [e2]
  rcases stS_cases w g with h | ⟨t, ht, h⟩
  · rw [h, if_pos rfl]
    refine ok_some ⟨rfl, ?_, hf⟩
    unfold stlW; rw [if_pos h]; exact hR
  · rw [h, if_neg (J_ne_neg (by omega)), if_pos (J_ix (by omega) (by omega)), J_nat (by omega), nm_s]
    have hI' : WInv (stlW w g) := stW_I hR.1 g
    have ew : stlW w g = upd w (54 + 3 * t) (-1) := by unfold stlW; rw [h, if_neg (J_ne_neg (by omega)), J_nat (by omega)]
    rw [ew] at hI' ⊢
    have hB := hR.2.1.u_home hR.1 ht (-1)
    refine ok_bd2 (Xweigh hn hI' hB) ?_
    rintro v' ⟨f1, f2⟩
    exact ok_some ⟨rfl, ⟨hI', hB.fr f1 (by simp), f2⟩, hf⟩
-- the week itself
def snowW (w : Nat → Int32) : Nat → Int32 :=
  if w 7 ≤ x_rem (drV (drS (w 11))) 100 then upd (upd w 11 (drS (w 11))) 5 (w 5 / 2)
  else upd (upd w 11 (drS (drS (w 11)))) 5 (x_min 99 (w 5 + x_rem (drV (drS (drS (w 11)))) 10))
def thiefW (w : Nat → Int32) : Nat → Int32 :=
  if x_rem (drV (drS (w 11))) 100 < w 8 then (if stS (upd w 11 (drS (w 11))) 0 = -1 then upd w 11 (drS (w 11)) else tellW (stlW (upd w 11 (drS (w 11))) 0) (stS (upd w 11 (drS (w 11))) 0) (luredS (upd w 11 (drS (w 11))) 0) (-1) 1) else upd w 11 (drS (w 11))
def thiefB (w : Nat → Int32) : Int32 := if x_rem (drV (drS (w 11))) 100 < w 8 then (if stS (upd w 11 (drS (w 11))) 0 = -1 then 0 else 1) else 0
def weekW (w : Nat → Int32) : Nat → Int32 := upd w 4 (x_min 9999 (w 4 + 1))
def oneW (w : Nat → Int32) : Nat → Int32 := weekW (ageTo (thiefW (payTo (snowW w) (2 * nP w))) (nP w))
def calmW (w : Nat → Int32) : Nat → Int32 := weekW (ageTo (payTo w (2 * nP w)) (nP w))
theorem upd_upd (f : Nat → Int32) (k : Nat) (x y : Int32) : upd (upd f k x) k y = upd f k y := by
  funext j; simp only [upd_a]; by_cases e : j = k <;> simp [e]
theorem half_b {x : Int32} (h : inB x 0 99) : inB (x / 2) 0 99 := by
  obtain ⟨k, rfl, -, hk⟩ := h
  have : ∀ k : Nat, k < 100 → J k / 2 = J (k / 2) := by decide +kernel
  rw [this k (by omega)]; exact ⟨_, rfl, by omega, by omega⟩
theorem drV_b (x : Int32) : ∃ m, drV x = J m ∧ m < 32768 := by
  have : low (drV x) 15 := by
    intro k hk
    unfold drV
    by_cases h : k < 32
    · rw [tb_and]
      have : ∀ k : Nat, k < 32 → ¬ k < 15 → tb 32767 k = false := by decide +kernel
      rw [this k h (by omega), Bool.and_false]
    · exact tb_hi _ (by omega)
  exact low_J this (by omega)
theorem rem10 (x : Int32) : ∃ m, x_rem (drV x) 10 = J m ∧ m < 10 := by
  obtain ⟨m, e, hm⟩ := drV_b x
  rw [e]
  refine ⟨m % 10, ?_, by omega⟩
  have hd : J m / 10 = J (m / 10) := by
    apply Int32.toInt_inj.mp
    rw [Int32.toInt_div, J_toInt (by omega), J_toInt (by omega), show (10 : Int32).toInt = 10 from by decide]
    rw [Int.tdiv_eq_ediv_of_nonneg (by omega), Int.bmod_eq_of_le (by omega) (by omega)]
    omega
  unfold x_rem
  rw [hd, show (10 : Int32) = J 10 from rfl, J_mul, J_sub (by omega)]; congr 1; omega
theorem snowW_I {w : Nat → Int32} (hI : WInv w) : WInv (snowW w) := by
  unfold snowW
  split
  · exact (hI.u_seed _).u_snow _ (half_b hI.snow)
  · refine (hI.u_seed _).u_snow _ ?_
    obtain ⟨m, e, hm⟩ := rem10 (drS (drS (w 11)))
    obtain ⟨s, es, -, hs⟩ := hI.snow
    rw [e, es, J_add, show (99 : Int32) = J 99 from rfl, J_min (by omega) (by omega)]
    exact ⟨_, rfl, by omega, by omega⟩
theorem snowW_ne (w : Nat → Int32) {k : Nat} (h : k ≠ 11) (h5 : k ≠ 5) : snowW w k = w k := by
  unfold snowW
  split <;> rw [upd_n _ _ _ h5, upd_n _ _ _ h]
theorem snowW_L {w : Nat → Int32} (hL : LWo w) : LWo (snowW w) := hL.eq (fun k a b => snowW_ne w (by omega) (by omega)) (snowW_ne w (by omega) (by omega))
theorem snowR (n : Nat) (V : St) : m_X12_snowsAndSteals n V 1 = some (sA V 1 (snowW (V 1))) := by
  unfold m_X12_snowsAndSteals
  rw [if_neg (by decide), drawR n V (by decide), bd_s]
  dsimp only
  unfold snowW
  have e1 : su V 1 11 (drS (V 1 11)) = sA V 1 (upd (V 1) 11 (drS (V 1 11))) := rfl
  rw [e1]
  have e7 : sA V 1 (upd (V 1) 11 (drS (V 1 11))) 1 7 = V 1 7 := by rw [sA_e, upd_n _ _ _ (by decide)]
  have e5 : sA V 1 (upd (V 1) 11 (drS (V 1 11))) 1 5 = V 1 5 := by rw [sA_e, upd_n _ _ _ (by decide)]
  have e11 : sA V 1 (upd (V 1) 11 (drS (V 1 11))) 1 11 = drS (V 1 11) := by rw [sA_e, upd_e]
  by_cases h : V 1 7 ≤ x_rem (drV (drS (V 1 11))) 100
  · simp only [e7, e5, h, ↓reduceIte, nm_s, su_sA]
  · simp only [e7, e5, h, ↓reduceIte]
    rw [drawR n _ (by decide), bd_s, nm_s]
    simp only [e11, su_sA, upd_upd]
theorem tell_I {w : Nat → Int32} (hI : WInv w) (t f o c : Int32) : WInv (tellW w t f o c) := by
  have h5 := hI.p5
  have h10 := hI.t10
  have e : ∀ k, k < 82 → k ≠ 10 → tellW w t f o c k = w k := fun k a b => tellW_lo w t f o c a b
  have eP : nP (tellW w t f o c) = nP w := by unfold nP; rw [e 0 (by omega) (by omega)]
  have eT : nT (tellW w t f o c) = nT w := by unfold nT; rw [e 1 (by omega) (by omega)]
  unfold WInv
  rw [eP, eT, e 0 (by omega) (by omega), e 1 (by omega) (by omega), e 6 (by omega) (by omega), e 5 (by omega) (by omega)]
  refine ⟨hI.1, hI.2.1, hI.2.2.1, hI.2.2.2.1, fun p hp => ?_, fun q hq => ?_, fun t ht => ?_⟩
  · rw [e _ (by omega) (by omega), e _ (by omega) (by omega), e _ (by omega) (by omega), e _ (by omega) (by omega)]; exact hI.pl hp
  · rw [e _ (by omega) (by omega)]; exact hI.ho hq
  · rw [e _ (by omega) (by omega), e _ (by omega) (by omega), e _ (by omega) (by omega)]; exact hI.th ht
theorem tell_B {v : St} {w : Nat → Int32} (hI : WInv w) (hB : HB v w) (t f o c : Int32) : HB v (tellW w t f o c) := by
  have h5 := hI.p5
  have h10 := hI.t10
  have e : ∀ k, k < 82 → k ≠ 10 → tellW w t f o c k = w k := fun k a b => tellW_lo w t f o c a b
  have eP : nP (tellW w t f o c) = nP w := by unfold nP; rw [e 0 (by omega) (by omega)]
  have eT : nT (tellW w t f o c) = nT w := by unfold nT; rw [e 1 (by omega) (by omega)]
  unfold HB
  rw [eP, eT, e 0 (by omega) (by omega), e 1 (by omega) (by omega), e 5 (by omega) (by omega), e 6 (by omega) (by omega), e 7 (by omega) (by omega), e 8 (by omega) (by omega), e 9 (by omega) (by omega), e 4 (by omega) (by omega), e 11 (by omega) (by omega)]
  refine ⟨hB.p, hB.t, hB.snow, hB.step, hB.fall, hB.thieves, hB.fee, hB.week, hB.seed, fun p hp => ?_, fun q hq => ?_, fun t ht => ?_⟩
  · rw [e _ (by omega) (by omega), e _ (by omega) (by omega), e _ (by omega) (by omega), e _ (by omega) (by omega)]; exact ⟨hB.bears hp, hB.age hp, hB.prop hp, hB.broken hp⟩
  · rw [e _ (by omega) (by omega), e _ (by omega) (by omega)]; exact ⟨hB.purse hq, hB.guests hq⟩
  · rw [e _ (by omega) (by omega), e _ (by omega) (by omega), e _ (by omega) (by omega)]; exact ⟨hB.weight ht, hB.worth ht, hB.home ht⟩
/-- rows that differ in what no load and no height hangs on -/
theorem HW.ag {v : St} {w u : Nat → Int32} (hT : nT w ≤ 10) (hW : HW v w) (h : ∀ p, p < nP w → AG p w u) (eP : nP u = nP w) : HW v u := by
  intro q hq
  rw [eP] at hq
  have hp : q / 2 < nP w := by omega
  rw [(h _ hp).load hT rfl, (h _ hp).height hT rfl]
  exact hW q hq
theorem thiefW_I {w : Nat → Int32} (hI : WInv w) : WInv (thiefW w) := by
  unfold thiefW
  split
  · split
    · exact hI.u_seed _
    · exact tell_I (stW_I (hI.u_seed _) 0) _ _ _ _
  · exact hI.u_seed _
theorem thiefW_lo {w : Nat → Int32} (hI : WInv w) {k : Nat} (h : k < 52) (h10 : k ≠ 10) (h11 : k ≠ 11) : thiefW w k = w k := by
  unfold thiefW
  split
  · split
    · rw [upd_n _ _ _ h11]
    · rw [tellW_lo _ _ _ _ _ (by omega) h10, stW_ne (hI.u_seed _) 0 (.inl h), upd_n _ _ _ h11]
  · rw [upd_n _ _ _ h11]
theorem thiefW_hi {w : Nat → Int32} (hI : WInv w) {k : Nat} (h : 382 ≤ k) : thiefW w k = w k := by
  unfold thiefW
  split
  · split
    · rw [upd_n _ _ _ (by omega)]
    · rw [tellW_hi _ _ _ _ _ h, stW_ne (hI.u_seed _) 0 (.inr (by omega)), upd_n _ _ _ (by omega)]
  · rw [upd_n _ _ _ (by omega)]
theorem thiefW_L {w : Nat → Int32} (hI : WInv w) (hL : LWo w) : LWo (thiefW w) := hL.eq (fun k a b => thiefW_hi hI a) (thiefW_lo hI (by omega) (by omega) (by omega))
theorem thiefR {n : Nat} (hn : 5000 < n) (V : St) (hI : WInv (V 1)) (hL : LWo (V 1)) : Ok (m_X12_snowsAndSteals n V 0) (fun r => r 1 = thiefW (V 1) ∧ Fr [1, 17] V r) := by
  unfold m_X12_snowsAndSteals
  rw [if_pos rfl, drawR n V (by decide), bd_s]
  dsimp only
  have e1 : su V 1 11 (drS (V 1 11)) 1 = upd (V 1) 11 (drS (V 1 11)) := su_e _ _ _ _
  have hf0 : Fr [1, 17] V (su V 1 11 (drS (V 1 11))) := (Fr.rfl _ _).put (by simp) _ _
  generalize su V 1 11 (drS (V 1 11)) = U at e1 hf0 ⊢
  unfold thiefW
  have e8 : U 1 8 = V 1 8 := by rw [e1, upd_n _ _ _ (by decide)]
  have hI1 : WInv (U 1) := by rw [e1]; exact hI.u_seed _
  have hL1 : LWo (U 1) := by rw [e1]; exact hL.u (by omega) (by omega) _
  by_cases h : x_rem (drV (drS (V 1 11))) 100 < V 1 8
  · simp only [e8, h, ↓reduceIte]
    refine ok_bd2 (luredR hn U hI1 hL1 0) ?_
    rintro ⟨a, V1⟩ ⟨f1, rfl⟩
    dsimp only at f1 ⊢
    have e2 : V1 1 = U 1 := f1 1 (by simp)
    have f1' : Fr [1, 17] U V1 := fun f h => f1 f (fun q => h (by simp at q ⊢; exact .inr q))
    refine ok_bd2 (stR hn V1 (by rw [e2]; exact hI1) (by rw [e2]; exact hL1) 0) ?_
    rintro ⟨b, V2⟩ ⟨g1, g2, g3⟩
    dsimp only at g1 g2 g3 ⊢
    subst g1
    rw [e2, e1] at g2
    rw [e2, e1]
    by_cases q : stS (upd (V 1) 11 (drS (V 1 11))) 0 = -1
    · rw [if_pos q, if_pos q]
      refine ok_some ⟨?_, (hf0.tr f1').tr g3⟩
      rw [g2]; unfold stlW; rw [if_pos q]
    · rw [if_neg q, if_neg q, tellsR hn, bd_s]
      refine ok_some ⟨?_, ((hf0.tr f1').tr g3).row (by simp) _⟩
      rw [sA_e, g2]
  · simp only [e8, h, ↓reduceIte]
    exact ok_some ⟨e1, hf0⟩
theorem agesR {n : Nat} (hn : 5000 < n) (V : St) {w : Nat → Int32} (hI : WInv w) (hL : LWo w) {p : Nat} (hp : p < nP w) (hV : V 1 = ageTo w p) : Ok (m_X12_ages n V (J p)) (fun r => r 1 = ageTo w (p + 1) ∧ Fr [1, 17] V r) := by
  have h5 := hI.p5
  have hI1 : WInv (V 1) := by rw [hV]; exact ageTo_I hI hL (by omega)
  have hL1 : LWo (V 1) := by rw [hV]; exact ageTo_L hL (by omega)
  have hA : AG p w (V 1) := by rw [hV]; exact ageTo_AG w p p (by omega) (Nat.le_refl _)
  have hp1 : p < nP (V 1) := by rw [hA.eqP]; exact hp
  have eN : ageTo w (p + 1) = upd (upd (V 1) (13 + 4 * p) (newA w p)) (15 + 4 * p) (newB w p) := by rw [hV]; rfl
  rw [eN]
  unfold m_X12_ages
  rw [isBroken_s n V (by omega), bd_s, hA.broken]
  by_cases hb : w (15 + 4 * p) = 1
  · rw [show b2i (w (15 + 4 * p) = 1) = 1 from if_pos hb, if_neg (by decide)]
    refine ok_some ⟨?_, Fr.rfl _ _⟩
    have e1 : V 1 (13 + 4 * p) = newA w p := by unfold newA; rw [if_pos hb]; exact hA.age
    have e2 : V 1 (15 + 4 * p) = newB w p := by unfold newB; rw [if_pos hb, hA.broken]; exact hb
    rw [upd_same _ e1, upd_same _ e2]
  · rw [show b2i (w (15 + 4 * p) = 1) = 0 from if_neg hb, if_pos rfl, plankAt_1, bd_s, ofPlank_1 n V (by omega), bd_s]
    refine ok_bd2 (agesBy_ok hn V hI1 hL1 hp1) ?_
    rintro ⟨a, V'⟩ ⟨hf, ha⟩
    dsimp only at hf ha ⊢
    subst ha
    have e1 : V' 1 = V 1 := hf 1 (by simp)
    have hf' : Fr [1, 17] V V' := fun f h => hf f (fun q => h (by simp at q ⊢; exact .inr q))
    rw [if_pos (J_ix (by omega) (by omega)), nm_s, J_nat (by omega), hA.age, hA.ages hI.t10 hL]
    have en : x_min 99 (w (13 + 4 * p) + agesS w p) = newA w p := by unfold newA; rw [if_neg hb]
    rw [en]
    have e2 : su V' 1 (13 + 4 * p) (newA w p) 1 = upd (V 1) (13 + 4 * p) (newA w p) := by rw [su_e, e1]
    have hf2 : Fr [1, 17] V (su V' 1 (13 + 4 * p) (newA w p)) := hf'.put (by simp) _ _
    generalize su V' 1 (13 + 4 * p) (newA w p) = U at e2 hf2 ⊢
    have hI2 : WInv (U 1) := by rw [e2]; exact hI1.u_age hp1 _ (newA_b hI hL hp)
    have el : ∀ q, q / 2 = p → q < 10 → loadS (U 1) q = loadS w q := by
      intro q hq h10
      have : loadS (U 1) q = loadS (V 1) q := by
        unfold loadS
        have hT := hI1.t10
        have eT : nT (U 1) = nT (V 1) := by unfold nT; rw [e2, upd_n _ _ _ (by omega)]
        have : wgI (U 1) (J q) = wgI (V 1) (J q) := by
          unfold wgI
          rw [eT]
          apply foldN_congr
          intro k a hk
          rw [e2, upd_n _ _ _ (by omega), upd_n _ _ _ (by omega)]
        rw [this, e2, upd_n _ _ _ (by omega), upd_n _ _ _ (by omega)]
      rw [this, hA.load hI.t10 hq]
    rw [J_dbl, J_dbl1, loadOf_s hn U hI2 (by omega), bd_s, loadOf_s hn U hI2 (by omega), bd_s, ofPlank_0 n U (by omega), bd_s, ofPlank_1 n U (by omega), bd_s, el _ (by omega) (by omega), el _ (by omega) (by omega), e2, upd_n _ _ _ (by omega), upd_e, hA.bears]
    by_cases hq : loadS w (2 * p) + loadS w (2 * p + 1) ≤ w (12 + 4 * p) - newA w p
    · rw [if_pos hq]
      refine ok_some ⟨?_, hf2⟩
      have : newB w p = 0 := by unfold newB; rw [if_neg hb, if_pos hq]
      rw [this, e2]
      refine (upd_same _ ?_).symm
      rw [upd_n _ _ _ (by omega), hA.broken]
      rcases (hI.pl hp).2.2.2 with h | h
      · exact h
      · exact absurd h hb
    · rw [if_neg hq, plankAt_3, bd_s, if_pos (J_ix (by omega) (by omega)), nm_s, J_nat (by omega)]
      refine ok_some ⟨?_, hf2.put (by simp) _ _⟩
      have : newB w p = 1 := by unfold newB; rw [if_neg hb, if_neg hq]
      rw [this, su_e, e2]
end PWEEK2
