section PHILLR2
-- a plank
def plW (w : Nat → Int32) (a b : Int32) : Nat → Int32 :=
  upd (upd (upd (upd (upd (upd (upd (upd (upd w (12 + 4 * nP w) a) (13 + 4 * nP w) b) (14 + 4 * nP w) 0) (15 + 4 * nP w) 0) (32 + 4 * nP w) 100) (33 + 4 * nP w) 0) (34 + 4 * nP w) 100) (35 + 4 * nP w) 0) 0 (J (nP w + 1))
def plX (X : St) (P : Nat) (a b : Int32) : St :=
  su (su (su (su (su (su (su (su (su X 9 P a) 10 P b) 11 P (zb 0)) 12 P (zb 0)) 13 (2 * P) 100) 14 (2 * P) 0) 13 (2 * P + 1) 100) 14 (2 * P + 1) 0) 0 0 (J (P + 1))
theorem plW_nP {w : Nat → Int32} (h : nP w < 5) (a b : Int32) : nP (plW w a b) = nP w + 1 := nP_J (by omega) (by unfold plW; rw [upd_e])
theorem plW_ne (w : Nat → Int32) (a b : Int32) {k : Nat} (h0 : k ≠ 0) (h : k < 12 + 4 * nP w ∨ 16 + 4 * nP w ≤ k) (h2 : k < 32 + 4 * nP w ∨ 36 + 4 * nP w ≤ k) : plW w a b k = w k := by
  unfold plW
  rw [upd_n _ _ _ h0, upd_n _ _ _ (by omega), upd_n _ _ _ (by omega), upd_n _ _ _ (by omega), upd_n _ _ _ (by omega), upd_n _ _ _ (by omega), upd_n _ _ _ (by omega), upd_n _ _ _ (by omega), upd_n _ _ _ (by omega)]
theorem plW_12 {w : Nat → Int32} (hP : nP w < 5) (a b : Int32) : plW w a b (12 + 4 * nP w) = a ∧ plW w a b (13 + 4 * nP w) = b ∧ plW w a b (14 + 4 * nP w) = 0 ∧ plW w a b (15 + 4 * nP w) = 0 := by
  unfold plW
  refine ⟨?_, ?_, ?_, ?_⟩
  · rw [upd_n _ _ _ (by omega), upd_n _ _ _ (by omega), upd_n _ _ _ (by omega), upd_n _ _ _ (by omega), upd_n _ _ _ (by omega), upd_n _ _ _ (by omega), upd_n _ _ _ (by omega), upd_n _ _ _ (by omega), upd_e]
  · rw [upd_n _ _ _ (by omega), upd_n _ _ _ (by omega), upd_n _ _ _ (by omega), upd_n _ _ _ (by omega), upd_n _ _ _ (by omega), upd_n _ _ _ (by omega), upd_n _ _ _ (by omega), upd_e]
  · rw [upd_n _ _ _ (by omega), upd_n _ _ _ (by omega), upd_n _ _ _ (by omega), upd_n _ _ _ (by omega), upd_n _ _ _ (by omega), upd_n _ _ _ (by omega), upd_e]
  · rw [upd_n _ _ _ (by omega), upd_n _ _ _ (by omega), upd_n _ _ _ (by omega), upd_n _ _ _ (by omega), upd_n _ _ _ (by omega), upd_e]
theorem plW_32 {w : Nat → Int32} (hP : nP w < 5) (a b : Int32) : plW w a b (32 + 4 * nP w) = 100 ∧ plW w a b (33 + 4 * nP w) = 0 ∧ plW w a b (34 + 4 * nP w) = 100 ∧ plW w a b (35 + 4 * nP w) = 0 := by
  unfold plW
  refine ⟨?_, ?_, ?_, ?_⟩
  · rw [upd_n _ _ _ (by omega), upd_n _ _ _ (by omega), upd_n _ _ _ (by omega), upd_n _ _ _ (by omega), upd_e]
  · rw [upd_n _ _ _ (by omega), upd_n _ _ _ (by omega), upd_n _ _ _ (by omega), upd_e]
  · rw [upd_n _ _ _ (by omega), upd_n _ _ _ (by omega), upd_e]
  · rw [upd_n _ _ _ (by omega), upd_e]
theorem plW_nT (w : Nat → Int32) (a b : Int32) : nT (plW w a b) = nT w := by unfold nT; rw [plW_ne w a b (by omega) (by omega) (by omega)]
theorem plX_fr (X : St) (P : Nat) (a b : Int32) : Fr [0, 9, 10, 11, 12, 13, 14] X (plX X P a b) := by
  unfold plX
  exact (((((((((Fr.rfl _ _).put (by simp) _ _).put (by simp) _ _).put (by simp) _ _).put (by simp) _ _).put (by simp) _ _).put (by simp) _ _).put (by simp) _ _).put (by simp) _ _).put (by simp) _ _
theorem plX_0 (X : St) (P : Nat) (a b : Int32) : plX X P a b 0 0 = J (P + 1) := by unfold plX; rw [su_e, upd_e]
theorem plX_9 (X : St) (P : Nat) (a b : Int32) (k : Nat) : plX X P a b 9 k = if k = P then a else X 9 k := by
  unfold plX
  rw [su_n _ _ _ _ (by decide), su_n _ _ _ _ (by decide), su_n _ _ _ _ (by decide), su_n _ _ _ _ (by decide), su_n _ _ _ _ (by decide), su_n _ _ _ _ (by decide), su_n _ _ _ _ (by decide), su_n _ _ _ _ (by decide), su_e, upd_a]
theorem plX_10 (X : St) (P : Nat) (a b : Int32) (k : Nat) : plX X P a b 10 k = if k = P then b else X 10 k := by
  unfold plX
  rw [su_n _ _ _ _ (by decide), su_n _ _ _ _ (by decide), su_n _ _ _ _ (by decide), su_n _ _ _ _ (by decide), su_n _ _ _ _ (by decide), su_n _ _ _ _ (by decide), su_n _ _ _ _ (by decide), su_e, upd_a, su_n _ _ _ _ (by decide)]
theorem plX_11 (X : St) (P : Nat) (a b : Int32) (k : Nat) : plX X P a b 11 k = if k = P then 0 else X 11 k := by
  unfold plX
  rw [su_n _ _ _ _ (by decide), su_n _ _ _ _ (by decide), su_n _ _ _ _ (by decide), su_n _ _ _ _ (by decide), su_n _ _ _ _ (by decide), su_n _ _ _ _ (by decide), su_e, upd_a, su_n _ _ _ _ (by decide), su_n _ _ _ _ (by decide)]; rfl
theorem plX_12 (X : St) (P : Nat) (a b : Int32) (k : Nat) : plX X P a b 12 k = if k = P then 0 else X 12 k := by
  unfold plX
  rw [su_n _ _ _ _ (by decide), su_n _ _ _ _ (by decide), su_n _ _ _ _ (by decide), su_n _ _ _ _ (by decide), su_n _ _ _ _ (by decide), su_e, upd_a, su_n _ _ _ _ (by decide), su_n _ _ _ _ (by decide), su_n _ _ _ _ (by decide)]; rfl
theorem plX_13 (X : St) (P : Nat) (a b : Int32) (k : Nat) : plX X P a b 13 k = if k = 2 * P + 1 then 100 else if k = 2 * P then 100 else X 13 k := by
  unfold plX
  rw [su_n _ _ _ _ (by decide), su_n _ _ _ _ (by decide), su_e, upd_a, su_n _ _ _ _ (by decide), su_e, upd_a, su_n _ _ _ _ (by decide), su_n _ _ _ _ (by decide), su_n _ _ _ _ (by decide), su_n _ _ _ _ (by decide)]
theorem plX_14 (X : St) (P : Nat) (a b : Int32) (k : Nat) : plX X P a b 14 k = if k = 2 * P + 1 then 0 else if k = 2 * P then 0 else X 14 k := by
  unfold plX
  rw [su_n _ _ _ _ (by decide), su_e, upd_a, su_n _ _ _ _ (by decide), su_e, upd_a, su_n _ _ _ _ (by decide), su_n _ _ _ _ (by decide), su_n _ _ _ _ (by decide), su_n _ _ _ _ (by decide), su_n _ _ _ _ (by decide)]
theorem plB {X : St} {w : Nat → Int32} (hI : WInv w) (hB : HB X w) (hP : nP w < 5) (a b : Int32) : HB (plX X (nP w) a b) (plW w a b) := by
  have h10 := hI.t10
  have hf := plX_fr X (nP w) a b
  unfold HB
  rw [plW_nP hP, plW_nT]
  refine ⟨?_, ?_, ?_, ?_, ?_, ?_, ?_, ?_, ?_, fun p hp => ?_, fun h hh => ?_, fun t ht => ?_⟩
  · rw [plX_0]; unfold plW; rw [upd_e]
  · rw [hf 1 (by simp), plW_ne w a b (by omega) (by omega) (by omega)]; exact hB.t
  · rw [hf 2 (by simp), plW_ne w a b (by omega) (by omega) (by omega)]; exact hB.snow
  · rw [hf 3 (by simp), plW_ne w a b (by omega) (by omega) (by omega)]; exact hB.step
  · rw [hf 4 (by simp), plW_ne w a b (by omega) (by omega) (by omega)]; exact hB.fall
  · rw [hf 5 (by simp), plW_ne w a b (by omega) (by omega) (by omega)]; exact hB.thieves
  · rw [hf 6 (by simp), plW_ne w a b (by omega) (by omega) (by omega)]; exact hB.fee
  · rw [hf 7 (by simp), plW_ne w a b (by omega) (by omega) (by omega)]; exact hB.week
  · rw [hf 8 (by simp), plW_ne w a b (by omega) (by omega) (by omega)]; exact hB.seed
  · rw [plX_9, plX_10, plX_11, plX_12]
    by_cases e : p = nP w
    · subst e
      obtain ⟨c1, c2, c3, c4⟩ := plW_12 hP a b
      rw [if_pos rfl, if_pos rfl, if_pos rfl, if_pos rfl]; exact ⟨c1.symm, c2.symm, c3.symm, c4.symm⟩
    · rw [if_neg e, if_neg e, if_neg e, if_neg e, plW_ne w a b (by omega) (by omega) (by omega), plW_ne w a b (by omega) (by omega) (by omega), plW_ne w a b (by omega) (by omega) (by omega), plW_ne w a b (by omega) (by omega) (by omega)]
      exact ⟨hB.bears (by omega), hB.age (by omega), hB.prop (by omega), hB.broken (by omega)⟩
  · rw [plX_13, plX_14]
    obtain ⟨c1, c2, c3, c4⟩ := plW_32 hP a b
    by_cases e : h = 2 * nP w
    · subst e
      rw [if_neg (show ¬ 2 * nP w = 2 * nP w + 1 by omega), if_neg (show ¬ 2 * nP w = 2 * nP w + 1 by omega), if_pos rfl, if_pos rfl, show 32 + 2 * (2 * nP w) = 32 + 4 * nP w from by omega, show 33 + 2 * (2 * nP w) = 33 + 4 * nP w from by omega]; exact ⟨c1.symm, c2.symm⟩
    · by_cases e2 : h = 2 * nP w + 1
      · subst e2
        rw [if_pos rfl, if_pos rfl, show 32 + 2 * (2 * nP w + 1) = 34 + 4 * nP w from by omega, show 33 + 2 * (2 * nP w + 1) = 35 + 4 * nP w from by omega]; exact ⟨c3.symm, c4.symm⟩
      · rw [if_neg e2, if_neg e2, if_neg e, if_neg e, plW_ne w a b (by omega) (by omega) (by omega), plW_ne w a b (by omega) (by omega) (by omega)]; exact ⟨hB.purse (by omega), hB.guests (by omega)⟩
  · rw [hf 15 (by simp), hf 16 (by simp), hf 17 (by simp), plW_ne w a b (by omega) (by omega) (by omega), plW_ne w a b (by omega) (by omega) (by omega), plW_ne w a b (by omega) (by omega) (by omega)]; exact ⟨hB.weight ht, hB.worth ht, hB.home ht⟩
theorem plI {w : Nat → Int32} (hI : WInv w) (hP : nP w < 5) {a b : Int32} (ha : inB a 10 400) (hb : inB b 0 99) : WInv (plW w a b) := by
  have h10 := hI.t10
  unfold WInv
  rw [plW_nP hP, plW_nT]
  refine ⟨⟨?_, by omega⟩, ⟨?_, h10⟩, ?_, ?_, fun p hp => ?_, fun h hh => ?_, fun t ht => ?_⟩
  · unfold plW; rw [upd_e]
  · rw [plW_ne w a b (by omega) (by omega) (by omega)]; exact hI.t
  · rw [plW_ne w a b (by omega) (by omega) (by omega)]; exact hI.step
  · rw [plW_ne w a b (by omega) (by omega) (by omega)]; exact hI.snow
  · by_cases e : p = nP w
    · subst e
      obtain ⟨c1, c2, c3, c4⟩ := plW_12 hP a b
      rw [c1, c2, c3, c4]; exact ⟨ha, hb, .inl rfl, .inl rfl⟩
    · rw [plW_ne w a b (by omega) (by omega) (by omega), plW_ne w a b (by omega) (by omega) (by omega), plW_ne w a b (by omega) (by omega) (by omega), plW_ne w a b (by omega) (by omega) (by omega)]; exact hI.pl (by omega)
  · obtain ⟨c1, c2, c3, c4⟩ := plW_32 hP a b
    by_cases e : h = 2 * nP w
    · subst e
      rw [show 33 + 2 * (2 * nP w) = 33 + 4 * nP w from by omega, c2]; exact ⟨0, rfl, by omega, by omega⟩
    · by_cases e2 : h = 2 * nP w + 1
      · subst e2
        rw [show 33 + 2 * (2 * nP w + 1) = 35 + 4 * nP w from by omega, c4]; exact ⟨0, rfl, by omega, by omega⟩
      · rw [plW_ne w a b (by omega) (by omega) (by omega)]; exact hI.ho (by omega)
  · rw [plW_ne w a b (by omega) (by omega) (by omega), plW_ne w a b (by omega) (by omega) (by omega), plW_ne w a b (by omega) (by omega) (by omega)]
    obtain ⟨a1, a2, a3⟩ := hI.th ht
    refine ⟨a1, a2, ?_⟩
    rcases a3 with a3 | ⟨h, e, hh⟩
    · exact .inl a3
    · exact .inr ⟨h, e, by omega⟩
theorem plX_s {n : Nat} (hn : 5000 < n) {X : St} {P : Nat} (hP : P < 5) (h : X 0 0 = J P) (a b : Int32) : m_X3_addPlank n X a b = some (plX X P a b) := by
  unfold m_X3_addPlank plX
  have e : J P < 5 := by rw [show (5 : Int32) = J 5 from rfl, J_lt (by omega) (by omega)]; exact hP
  have e1 : su X 9 P a 0 0 = J P := by rw [su_n _ _ _ _ (by decide)]; exact h
  have e2 : su (su X 9 P a) 10 P b 0 0 = J P := by rw [su_n _ _ _ _ (by decide)]; exact e1
  have e3 : su (su (su X 9 P a) 10 P b) 11 P (zb 0) 0 0 = J P := by rw [su_n _ _ _ _ (by decide)]; exact e2
  have e4 : su (su (su (su X 9 P a) 10 P b) 11 P (zb 0)) 12 P (zb 0) 0 0 = J P := by rw [su_n _ _ _ _ (by decide)]; exact e3
  simp (disch := omega) only [h, e, ↓reduceIte, ix_J, J_nat, nm_s, e1, e2, e3, e4, J_dbl]
  generalize su (su (su (su X 9 P a) 10 P b) 11 P (zb 0)) 12 P (zb 0) = u at e4 ⊢
  refine (congrArg (fun x => bd x _) (lp_seq (r := su (su (su (su u 13 (2 * P) 100) 14 (2 * P) 0) 13 (2 * P + 1) 100) 14 (2 * P + 1) 0) (fun i => (J (2 * P + i), foldN (fun i x => su (su x 13 (2 * P + i) 100) 14 (2 * P + i) 0) u i)) 2 (fun rc i hi => ?_) (fun rc => ?_) (by omega) rfl)).trans ?_
  · have e5 : foldN (fun i x => su (su x 13 (2 * P + i) 100) 14 (2 * P + i) 0) u i 0 0 = J P := by
      refine foldN_ind (R := fun _ (x : St) => x 0 0 = J P) e4 (fun k x _ hx => ?_)
      rw [su_n _ _ _ _ (by decide), su_n _ _ _ _ (by decide)]; exact hx
    have e6 : ¬ J (2 * P) + 2 ≤ J (2 * P + i) := by rw [show (2 : Int32) = J 2 from rfl, J_add, J_le (by omega) (by omega)]; omega
    rw [foldN_succ]
    simp (disch := omega) only [e5, J_dbl, e6, ↓reduceIte, ix_J, J_nat, nm_s, J_succ (2 * P + i)]
    rfl
  · have e5 : foldN (fun i x => su (su x 13 (2 * P + i) 100) 14 (2 * P + i) 0) u 2 0 0 = J P := by
      refine foldN_ind (R := fun _ (x : St) => x 0 0 = J P) e4 (fun k x _ hx => ?_)
      rw [su_n _ _ _ _ (by decide), su_n _ _ _ _ (by decide)]; exact hx
    have e6 : J (2 * P) + 2 ≤ J (2 * P + 2) := by rw [show (2 : Int32) = J 2 from rfl, J_add, J_le (by omega) (by omega)]; omega
    simp only [e5, J_dbl, e6, ↓reduceIte]
    rfl
  · have e5 : su (su (su (su u 13 (2 * P) 100) 14 (2 * P) 0) 13 (2 * P + 1) 100) 14 (2 * P + 1) 0 0 0 = J P := by
      rw [su_n _ _ _ _ (by decide), su_n _ _ _ _ (by decide), su_n _ _ _ _ (by decide), su_n _ _ _ _ (by decide)]; exact e4
    rw [bd_s, e5, J_succ]
theorem twoR {n : Nat} (hn : 5000 < n) (u : St) {P : Nat} (hP : P < 5) (p b : Nat) : lp (fun (rc20 : Int32 × St → Option (St)) (x20l : Int32 × St) =>
(if (J (2 * P + 1)) < x20l.1 then
some x20l.2
else
bd (m_X12_houseAt n x20l.1 0) (fun t21 =>
(if ix t21 2080 then nm (su x20l.2 1 (t21).toNatClampNeg 100) (fun u23 =>
bd (m_X12_houseAt n x20l.1 1) (fun t24 =>
(if ix t24 2080 then nm (su u23 1 (t24).toNatClampNeg 0) (fun u26 =>
rc20 ((x20l.1 + 1), u26)) else none))) else none)))) n (J (2 * P), PB u p b) = some (PB (su (su (su (su u 1 (32 + 4 * P) 100) 1 (33 + 4 * P) 0) 1 (34 + 4 * P) 100) 1 (35 + 4 * P) 0) p b) := by
  refine lp_seq (fun i => (J (2 * P + i), PB (foldN (fun i x => su (su x 1 (32 + 2 * (2 * P + i)) 100) 1 (33 + 2 * (2 * P + i)) 0) u i) p b)) 2 (fun rc i hi => ?_) (fun rc => ?_) (by omega) rfl
  · have e6 : ¬ J (2 * P + 1) < J (2 * P + i) := by rw [J_lt (by omega) (by omega)]; omega
    rw [foldN_succ]
    simp (disch := omega) only [e6, ↓reduceIte, houseAt_0, houseAt_1, bd_s, ix_J, J_nat, nm_s, J_succ (2 * P + i), su_PB _ _ _ (show (1 : Nat) ≠ 10 by decide) (show (1 : Nat) ≠ 12 by decide)]
    rfl
  · have e6 : J (2 * P + 1) < J (2 * P + 2) := by rw [J_lt (by omega) (by omega)]; omega
    simp only [e6, ↓reduceIte]
    have ef : foldN (fun i x => su (su x 1 (32 + 2 * (2 * P + i)) 100) 1 (33 + 2 * (2 * P + i)) 0) u 2 = su (su (su (su u 1 (32 + 2 * (2 * P + 0)) 100) 1 (33 + 2 * (2 * P + 0)) 0) 1 (32 + 2 * (2 * P + 1)) 100) 1 (33 + 2 * (2 * P + 1)) 0 := rfl
    rw [ef, show 32 + 2 * (2 * P + 0) = 32 + 4 * P from by omega, show 33 + 2 * (2 * P + 0) = 33 + 4 * P from by omega, show 32 + 2 * (2 * P + 1) = 34 + 4 * P from by omega, show 33 + 2 * (2 * P + 1) = 35 + 4 * P from by omega]
theorem plankT {n : Nat} (hn : 5000 < n) {tok R V X : St} {len N : Nat} (h : CXt tok V len N) (hI : WInv (V 1)) (hB : HB X (V 1)) {t : Nat} (ht : t < N) {p : Nat} (hp : JC V len p (t + 1)) :
    Ok2 (m_X4_readPlank n (RT R t) tok X) (m_X12_readPlank n (PB V p (st (V 8) len t))) (HQ R V len N t) := by
  have h5 := hI.p5
  unfold m_X4_readPlank m_X12_readPlank
  rw [planks_s, bd_s, PB_n _ _ _ (f := 1) (by decide) (by decide), hB.p, hI.p]
  by_cases hP : nP (V 1) < 5
  · rw [if_pos (by rw [show (5 : Int32) = J 5 from rfl, J_lt (by omega) (by omega)]; exact hP), if_neg (by rw [show (5 : Int32) = J 5 from rfl, J_inj (by omega) (by omega)]; omega), nm_s, RT_at, J_succ, RT_RT, num4 n h.1.1 h.2.1 (by omega), bd_s]
    rcases numberT hn h (t := t + 1) (by omega) hp (b := st (V 8) len t) 10 400 with ⟨q, h1, p1, h2, e⟩ | ⟨q, p1, e⟩
    · obtain ⟨v1, v2, v3⟩ := vl_nn h.1.1 h.2.2 (stt_le _ _ _) q.1
      rw [if_pos q, e, bd_s]
      dsimp only
      rw [if_neg v3, if_pos v1, skip4 n h.1.1 h.2.1 (by omega), bd_s]
      have hb1 := vl_rng h.1.1 h.2.2 (stt_le _ _ _) (a := 10) (b := 400) (by omega) (by omega) q
      generalize vl (V 8) len (st (V 8) len (t + 1)) = x1 at hb1 ⊢
      -- the age, or none
      have mid : Ok2 (bd (if (if cd (V 8) len (st (V 8) len (t + 1 + 1)) = 311 then ((1 : Int32), RT R (t + 1 + 1 + 1)) else (0, RT R (t + 1 + 1))).1 = 0 then some (0, (if cd (V 8) len (st (V 8) len (t + 1 + 1)) = 311 then ((1 : Int32), RT R (t + 1 + 1 + 1)) else (0, RT R (t + 1 + 1))).2) else bd (m_X9_number_X4 n (if cd (V 8) len (st (V 8) len (t + 1 + 1)) = 311 then ((1 : Int32), RT R (t + 1 + 1 + 1)) else (0, RT R (t + 1 + 1))).2 tok X 0 99) (fun t6 => some (t6.1, t6.2))) (fun t4 => some t4)) (bd (m_X12_passes n (PB V p1 (st (V 8) len (t + 1))) 1) (fun t3 => bd (if t3.1 = 0 then some (0, t3.2) else bd (m_X12_number n t3.2 0 99) (fun t27 => some (t27.1, t27.2))) (fun t4 => some t4)))
          (fun a c => (inB a.1 0 99 ∧ c.1 = a.1 ∧ ∃ t' p' b', a.2 = RT R t' ∧ t' ≤ N ∧ t < t' ∧ c.2 = PB V p' b' ∧ JC V len p' t') ∨ (a.1 = -1 ∧ c.1 = -1 ∧ ∃ t' p', a.2 = RT R t' ∧ t' ≤ N ∧ c.2 = PB V p' (st (V 8) len t'))) := by
        rcases passT hn h (t := t + 1 + 1) (by omega) h2 (b := st (V 8) len (t + 1)) (s := 1) (by omega) (by omega) with ⟨a1, a2, p2, a3, a4⟩ | ⟨a1, a4⟩
        · have a1' : cd (V 8) len (st (V 8) len (t + 1 + 1)) = 311 := a1
          rw [if_pos a1', a4, bd_s]
          dsimp only
          rw [if_neg (show ¬ ((1 : Int32) = 0) by decide), if_neg (show ¬ ((1 : Int32) = 0) by decide), num4 n h.1.1 h.2.1 (by omega), bd_s, bd_s]
          rcases numberT hn h (t := t + 1 + 1 + 1) (by omega) a3 (b := st (V 8) len (t + 1 + 1)) 0 99 with ⟨q', h1', p', h2', e'⟩ | ⟨q', p', e'⟩
          · rw [if_pos q', e', bd_s, bd_s]
            exact ok2_some (.inl ⟨vl_rng h.1.1 h.2.2 (stt_le _ _ _) (a := 0) (b := 99) (by omega) (by omega) q', rfl, t + 1 + 1 + 1 + 1, p', _, rfl, by omega, by omega, rfl, h2'⟩)
          · rw [if_neg q', e', bd_s, bd_s]
            exact ok2_some (.inr ⟨rfl, rfl, t + 1 + 1 + 1, p', rfl, by omega, rfl⟩)
        · have a1' : ¬ cd (V 8) len (st (V 8) len (t + 1 + 1)) = 311 := a1
          rw [if_neg a1', a4, bd_s]
          dsimp only
          rw [if_pos rfl, bd_s, if_pos rfl, bd_s]
          exact ok2_some (.inl ⟨⟨0, rfl, by omega, by omega⟩, rfl, t + 1 + 1, _, _, rfl, by omega, by omega, rfl, JC.st V len _⟩)
      obtain ⟨⟨a, Ra⟩, ⟨c, Vc⟩, m1, m2, hm⟩ := mid
      have hbb : ∀ {α : Type} (x : Option α), bd x (fun a => some a) = x := fun x => by cases x <;> rfl
      rw [hbb] at m1
      rw [m1, bd_s]
      have m2' : ∀ {β : Type} (K : Int32 × St → Option β), bd (m_X12_passes n (PB V p1 (st (V 8) len (t + 1))) 1) (fun t3 => bd (if t3.1 = 0 then some (0, t3.2) else bd (m_X12_number n t3.2 0 99) (fun t27 => some (t27.1, t27.2))) K) = K (c, Vc) := by
        intro β K
        cases hpz : m_X12_passes n (PB V p1 (st (V 8) len (t + 1))) 1 with
        | none => rw [hpz] at m2; cases m2
        | some z =>
          rw [hpz, bd_s, hbb] at m2
          rw [bd_s, m2, bd_s]
      rw [m2']
      dsimp only
      rcases hm with ⟨hr, rfl, t', p', b', rfl, ht', htt, rfl, hj⟩ | ⟨rfl, rfl, t', p', rfl, ht', rfl⟩
      · dsimp only at hr ⊢
        obtain ⟨ka, eka, -, hka⟩ := id hr
        rw [if_neg (by rw [eka]; exact J_ne_neg (by omega)), if_pos (by rw [eka]; have := J_nn (k := ka) (by omega); grind), plX_s hn hP (hB.p.trans hI.p), bd_s]
        rw [plankAt_0, bd_s, if_pos (J_ix (by omega) (by omega)), nm_s, plankAt_1, bd_s, if_pos (J_ix (by omega) (by omega)), nm_s, plankAt_2, bd_s, if_pos (J_ix (by omega) (by omega)), nm_s, plankAt_3, bd_s, if_pos (J_ix (by omega) (by omega)), nm_s, nm_s, J_nat (by omega), J_nat (by omega), J_nat (by omega), J_nat (by omega), J_dbl, J_dbl1]
        simp only [su_PB _ _ _ (show (1 : Nat) ≠ 10 by decide) (show (1 : Nat) ≠ 12 by decide)]
        rw [twoR hn _ hP, bd_s, nm_s]
        simp only [su_PB _ _ _ (show (1 : Nat) ≠ 10 by decide) (show (1 : Nat) ≠ 12 by decide), PB_n _ _ _ (show (1 : Nat) ≠ 10 by decide) (show (1 : Nat) ≠ 12 by decide)]
        generalize hz : su (su (su (su (su (su (su (su V 1 (12 + 4 * nP (V 1)) x1) 1 (13 + 4 * nP (V 1)) c) 1 (14 + 4 * nP (V 1)) 0) 1 (15 + 4 * nP (V 1)) 0) 1 (32 + 4 * nP (V 1)) 100) 1 (33 + 4 * nP (V 1)) 0) 1 (34 + 4 * nP (V 1)) 100) 1 (35 + 4 * nP (V 1)) 0 = z
        have ez : z 1 = upd (upd (upd (upd (upd (upd (upd (upd (V 1) (12 + 4 * nP (V 1)) x1) (13 + 4 * nP (V 1)) c) (14 + 4 * nP (V 1)) 0) (15 + 4 * nP (V 1)) 0) (32 + 4 * nP (V 1)) 100) (33 + 4 * nP (V 1)) 0) (34 + 4 * nP (V 1)) 100) (35 + 4 * nP (V 1)) 0 := by
          rw [← hz]; simp only [su_e]
        have ez0 : z 1 0 = J (nP (V 1)) := by
          rw [ez, upd_n _ _ _ (by omega), upd_n _ _ _ (by omega), upd_n _ _ _ (by omega), upd_n _ _ _ (by omega), upd_n _ _ _ (by omega), upd_n _ _ _ (by omega), upd_n _ _ _ (by omega), upd_n _ _ _ (by omega)]; exact hI.p
        have er : su z 1 0 (z 1 0 + 1) 1 = plW (V 1) x1 c := by rw [su_e, ez0, J_succ, ez]; rfl
        have ef : Fr [1] V (su z 1 0 (z 1 0 + 1)) := by
          rw [← hz]
          exact (((((((((Fr.rfl _ _).put (by simp) _ _).put (by simp) _ _).put (by simp) _ _).put (by simp) _ _).put (by simp) _ _).put (by simp) _ _).put (by simp) _ _).put (by simp) _ _).put (by simp) _ _
        refine ok2_some (.inl ⟨rfl, rfl, t', p', b', _, rfl, ht', htt, rfl, hj, ef, ?_, ?_, fun k hk => ?_⟩)
        · rw [er]; exact plB hI hB hP _ _
        · rw [er]; exact plI hI hP hb1 hr
        · rw [er]; exact plW_ne _ _ _ (by omega) (by omega) (by omega)
      · rw [if_pos rfl, if_neg (show ¬ ((0 : Int32) ≤ -1) by decide)]
        exact ok2_some (.inr ⟨rfl, rfl, t', p', V, rfl, ht', rfl, Fr.rfl _ _⟩)
    · rw [if_neg q, e, bd_s]
      dsimp only
      rw [if_pos rfl, if_neg (show ¬ ((0 : Int32) ≤ -1) by decide)]
      exact ok2_some (.inr ⟨rfl, rfl, t + 1, p1, V, rfl, by omega, rfl, Fr.rfl _ _⟩)
  · rw [if_neg (by rw [show (5 : Int32) = J 5 from rfl, J_lt (by omega) (by omega)]; exact hP), if_pos (by rw [show nP (V 1) = 5 from by omega]; rfl)]
    exact ok2_some (.inr ⟨rfl, rfl, t, p, V, rfl, by omega, rfl, Fr.rfl _ _⟩)
end PHILLR2
