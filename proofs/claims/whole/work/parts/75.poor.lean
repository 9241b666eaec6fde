section PPOOR
def ppS (w : Nat → Int32) (h : Nat) : Bool := decide (¬ w (32 + 2 * h) = 0)
def poS (w : Nat → Int32) : Bool := !allN (ppS w) (2 * nP w)
theorem emptyX {n : Nat} (hn : 5000 < n) {v : St} {w : Nat → Int32} (hI : WInv w) (hB : HB v w) : m_X3_hasEmptyPurse n v = some (b2 (poS w)) := by
  have h5 := hI.p5
  unfold m_X3_hasEmptyPurse
  refine (lp_all (fun k => J k) (ppS w) (2 * nP w) 1 0 (fun rc k hk => ?_) (fun rc => ?_) (by omega) rfl).trans ?_
  · simp (disch := omega) only [Xhouses hI hB, bd_s, J_le, Nat.not_le.mpr hk, ↓reduceIte, ix_J, J_nat, hB.purse hk, J_succ]
    unfold ppS
    by_cases q : w (32 + 2 * k) = 0 <;> simp [q]
  · simp (disch := omega) only [Xhouses hI hB, bd_s, J_le, Nat.le_refl, ↓reduceIte]
  · unfold poS; cases allN (ppS w) (2 * nP w) <;> rfl
theorem isPoorR {n : Nat} (hn : 5000 < n) {u : St} (hI : WInv (u 1)) : m_X12_isPoor n u = some (b2 (poS (u 1))) := by
  have h5 := hI.p5
  unfold m_X12_isPoor
  refine lp_seq (fun k => (b2 (!allN (ppS (u 1)) k), J k)) (2 * nP (u 1)) (fun rc k hk => ?_) (fun rc => ?_) (by omega) rfl
  · simp (disch := omega) only [houses_s n u hI.p, bd_s, J_le, Nat.not_le.mpr hk, ↓reduceIte, of_0, jn_s, J_succ]
    have e : allN (ppS (u 1)) (k + 1) = (allN (ppS (u 1)) k && ppS (u 1) k) := rfl
    rw [e]
    cases allN (ppS (u 1)) k
    · simp [b2, bd_s]
    · unfold ppS
      by_cases q : u 1 (32 + 2 * k) = 0 <;> simp [b2, bd_s, q]
  · simp (disch := omega) only [houses_s n u hI.p, bd_s, J_le, Nat.le_refl, ↓reduceIte, isb_b2, poS]
theorem poS_eq {w u : Nat → Int32} (eP : nP u = nP w) (h : ∀ p, p < nP w → SM p w u) : poS u = poS w := by
  unfold poS
  rw [eP]
  congr 1
  apply allN_congr
  intro k hk
  unfold ppS
  rw [(h (k / 2) (by omega)).purse rfl]
def poP (w : Nat → Int32) (k : Nat) : Bool := poS (itN calmW w k)
theorem poorR {n : Nat} (hn : 5000 < n) (V : St) (hI : WInv (V 1)) (hL : LWo (V 1)) : Ok (m_X12_poor n V) (fun r => r.1 = (if fstN (poP (V 1)) 101 < 101 then J (fstN (poP (V 1)) 101) else -1) ∧ r.2 0 0 = 0 ∧ Fr [0, 4, 17] V r.2) := by
  have h5 := hI.p5
  have hle := fstN_le (poP (V 1))
  unfold m_X12_poor
  rw [nm_s, keepR hn, bd_s]
  have e0 : su V 0 0 0 1 = V 1 := su01 V 0
  have f0 : Fr [0] V (su V 0 0 0) := (Fr.rfl _ _).put (by simp) _ _
  have g0 : su V 0 0 0 0 0 = 0 := su00 V 0
  generalize su V 0 0 0 = W at e0 f0 g0 ⊢
  refine ok_bd2 (P := fun r => r.1 = (if fstN (poP (V 1)) 101 < 101 then J (fstN (poP (V 1)) 101) else -1) ∧ Fr [1, 17] (sA W 4 (cpN (W 1) (W 4) 382)) r.2 ∧ ∀ j, 382 ≤ j → r.2 1 j = W 1 j) ?_ ?_
  · refine ok_forE (fun k (x : St) => ((if fstN (poP (V 1)) k < k then J (fstN (poP (V 1)) k) else -1), J k, x)) 101 (fun k x => x 1 = itN calmW (V 1) k ∧ Fr [1, 17] (sA W 4 (cpN (W 1) (W 4) 382)) x) ?_ ?_ (by omega) _ ?_ ⟨by rw [keep_1]; exact e0, Fr.rfl _ _⟩
    · rintro rc k x hk ⟨hx, hf⟩ ih
      obtain ⟨a, b, c, d⟩ := calm_it hI hL k
      have h1 := hle k
      have e1 : ¬ (100 : Int32) < J k := by rw [show (100 : Int32) = J 100 from rfl, J_lt (by omega) (by omega)]; omega
      simp only [e1, ↓reduceIte]
      by_cases hf1 : fstN (poP (V 1)) k < k
      · have e9 := fstN_st' (N := 101) (poP (V 1)) hf1 (by omega)
        rw [if_pos hf1, if_neg (J_ne_neg (by omega))]
        refine ok_some ⟨?_, hf, fun j hj => by dsimp only; rw [hx, e0]; exact d j (by omega)⟩
        dsimp only; rw [e9, if_pos (by omega)]
      · rw [if_neg hf1, if_pos rfl, isPoorR hn (by rw [hx]; exact a), bd_s]
        have es := fstN_no _ hf1
        have hv : (if b2 (poS (x 1)) = 0 then some (-1) else some (J k)) = some (if fstN (poP (V 1)) (k + 1) < k + 1 then J (fstN (poP (V 1)) (k + 1)) else -1) := by
          rw [es, hx]
          have : poP (V 1) k = poS (itN calmW (V 1) k) := rfl
          rw [this]
          cases poS (itN calmW (V 1) k)
          · rw [if_pos (by decide)]; simp
          · rw [if_neg (by decide)]; simp
        rw [hv, bd_s]
        refine ok_bd2 (calmR hn x (by rw [hx]; exact a) (by rw [hx]; exact b)) ?_
        rintro V' ⟨e, g⟩
        rw [J_succ k]
        exact ih V' ⟨by rw [e, hx]; rfl, hf.tr g⟩
    · rintro rc x ⟨hx, hf⟩
      obtain ⟨a, b, c, d⟩ := calm_it hI hL 101
      have e1 : (100 : Int32) < J 101 := by decide
      simp only [e1, ↓reduceIte]
      exact ok_some ⟨by dsimp only, hf, fun j hj => by dsimp only; rw [hx, e0]; exact d j (by omega)⟩
    · rfl
  rintro ⟨a, U⟩ ⟨h1, h2, h3⟩
  dsimp only at h1 h2 h3 ⊢
  rw [backR hn, bd_s]
  have hfin := keep_back h2 h3
  refine ok_some ⟨h1, ?_, (f0.mono (by simp)).tr (hfin.mono (by simp))⟩
  dsimp only
  rw [hfin 0 (by simp)]; exact g0
-- the class: all planks
def evoN (u : Nat → Int32) (K : Nat) : Nat → Int32 := foldN (fun p x => ageP (payP x p) p) u K
theorem evoN_hi (u : Nat → Int32) {k : Nat} (h : 82 ≤ k ∨ k = 3) : ∀ K, K ≤ 5 → evoN u K k = u k
  | 0, _ => rfl
  | K + 1, hK => by
    show ageP (payP (evoN u K) K) K k = _
    rw [ageP_hi _ (by omega) h, payP_hi _ (by omega) h, evoN_hi u h K (by omega)]
theorem NW.tr {p : Nat} {u x y : Nat → Int32} (hx : NW p u x) (h : SM p x y) : NW p u y := by
  obtain ⟨x1, x2, x3, xa, xb, xc, xd, xe, xf, xg, xh⟩ := hx
  refine ⟨fun k a b => (h.1.1 k a b).trans (x1 k a b), fun k a b => (h.1.2.1 k a b).trans (x2 k a b), fun k a b => (h.1.2.2.1 k a b).trans (x3 k a b), h.1.bears.trans xa, h.1.prop.trans xb, h.1.2.2.2.2.1.trans xc, h.1.2.2.2.2.2.trans xd, h.1.age.trans xe, h.1.broken.trans xf, h.2.1.trans xg, h.2.2.trans xh⟩
theorem NW.of {p : Nat} {u x y : Nat → Int32} (hT : nT u ≤ 10) (hL : LWo u) (h : SM p u x) (hy : NW p x y) : NW p u y := by
  obtain ⟨y1, y2, y3, ya, yb, yc, yd, ye, yf, yg, yh⟩ := hy
  refine ⟨fun k a b => (y1 k a b).trans (h.1.1 k a b), fun k a b => (y2 k a b).trans (h.1.2.1 k a b), fun k a b => (y3 k a b).trans (h.1.2.2.1 k a b), ya.trans h.1.bears, yb.trans h.1.prop, yc.trans h.1.2.2.2.2.1, yd.trans h.1.2.2.2.2.2, ye.trans (h.1.eqNA hT hL), yf.trans (h.1.eqNB hT hL), yg.trans (h.eqNP hT hL (by omega)), yh.trans (h.eqNP hT hL (by omega))⟩
theorem evoN_all {u : Nat → Int32} (hI : WInv u) (hL : LWo u) : ∀ K, K ≤ nP u → WInv (evoN u K) ∧ LWo (evoN u K) ∧ nP (evoN u K) = nP u ∧ (∀ p, p < K → NW p u (evoN u K)) ∧ (∀ p, K ≤ p → p < 5 → SM p u (evoN u K))
  | 0, _ => ⟨hI, hL, rfl, fun p hp => absurd hp (by omega), fun p _ _ => SM.rfl p u⟩
  | K + 1, hK => by
    have h5 := hI.p5
    obtain ⟨a, b, c, d, e⟩ := evoN_all hI hL K (by omega)
    have hKp : K < nP (evoN u K) := by rw [c]; omega
    have hLp : LWo (payP (evoN u K) K) := b.eq (fun k x y => payP_hi _ (by omega) (.inl (by omega))) (payP_hi _ (by omega) (.inr rfl))
    have hd : evoN u (K + 1) = ageP (payP (evoN u K) K) K := rfl
    refine ⟨by rw [hd]; exact ageP_I (payP_I a hKp) hLp (by rw [payP_P]; exact hKp), hL.eq (fun k x y => evoN_hi u (.inl (by omega)) _ (by omega)) (evoN_hi u (.inr rfl) _ (by omega)), by rw [hd, ageP_P, payP_P, c], fun p hp => ?_, fun p hp hp5 => ?_⟩
    · rw [hd]
      by_cases q : p = K
      · subst q
        exact NW.of hI.t10 hL (e p (Nat.le_refl _) (by omega)) (evo_NW (by rw [(e p (Nat.le_refl _) (by omega)).1.eqT]; exact hI.t10) b (by omega))
      · exact (d p (by omega)).tr (evo_SM _ (by omega) (by omega) q)
    · rw [hd]
      exact (e p (by omega) hp5).trans (evo_SM _ (by omega) hp5 (by omega))
theorem HF.mk' {v0 v : St} {u x : Nat → Int32} {p q : Nat} (hR : HR v0 u) (hB : HB v x) (hf : Fr [10, 12, 13] v0 v) (hA : AG p u x) (hp : p < nP u) (hq : q / 2 = p) : HF v x q := by
  have hP : nP x = nP u := hA.eqP
  refine ⟨?_, ?_, hB.guests (by omega), hB.age (by omega), hB.week⟩
  · rw [hf 19 (by simp), (hR.2.2 q (by omega)).2, hA.height hR.1.t10 hq]
  · rw [hf 18 (by simp), (hR.2.2 q (by omega)).1, hA.load hR.1.t10 hq]
theorem weekW_P (z : Nat → Int32) : nP (weekW z) = nP z := by unfold weekW nP; rw [upd_n _ _ _ (by omega)]
theorem poorX {n : Nat} (hn : 5000 < n) {v0 v L s : St} {w : Nat → Int32} (hR : HR v w) (hL : LR L w) :
    Ok (m_X11_poor n v0 v L s) (fun r => r.1 = (if fstN (poP w) 101 < 101 then J (fstN (poP w) 101) else -1) ∧ Fr [6] L r.2.1) := by
  have h5 := hR.1.p5
  unfold m_X11_poor
  refine ok_bd2 (copyHR hn s hR) ?_
  rintro s1 hs1
  refine ok_fst (fun k (x : St × St) => (J k, x.1, x.2)) (poP w) 101 (fun k x => ∃ u, HR x.2 u ∧ (∀ p, p < nP w → SM p (itN calmW w k) u) ∧ nP u = nP w ∧ Fr [6] L x.1 ∧ LR L u) ?_ ?_ (by omega) (L, s1) rfl ⟨w, hs1, fun p _ => SM.rfl p w, rfl, Fr.rfl _ _, hL⟩
  · rintro rc k ⟨L', x⟩ hk ⟨u, hu, hS, hPu, hf, hLu⟩ hfk ih hfd
    dsimp only at hu hf
    obtain ⟨a, b, c, d⟩ := calm_it hR.1 hL.o k
    have e1 : ¬ (100 : Int32) < J k := by rw [show (100 : Int32) = J 100 from rfl, J_lt (by omega) (by omega)]; omega
    have ep : poS u = poP w k := poS_eq (by rw [hPu, c]) (fun p hp => hS p (by omega))
    simp only [e1, ↓reduceIte, emptyX hn hu.1 hu.2.1, bd_s, ep]
    by_cases q : poP w k = true
    · rw [q, if_neg (by decide)]
      refine ok_some ⟨?_, hf⟩
      dsimp only
      rw [hfd q, if_pos hk]
    · have q' : poP w k = false := by simpa using q
      rw [q', if_pos (by decide)]
      have hLo := hLu.o
      refine ok_bd2 (P := fun r => HB r.2 (evoN u (nP u)) ∧ Fr [6] L r.1) ?_ ?_
      · refine ok_forE (fun k (x : St × St) => (J k, x.1, x.2)) (nP u) (fun j y => HB y.2 (evoN u j) ∧ Fr [10, 12, 13] x y.2 ∧ Fr [6] L y.1) ?_ ?_ (by omega) (L', x) rfl ⟨hu.2.1, Fr.rfl _ _, hf⟩
        · rintro rc j ⟨L2, y⟩ hj ⟨hB, hfy, hfL⟩ ih
          dsimp only at hB hfy hfL
          obtain ⟨a1, b1, c1, d1, e1⟩ := evoN_all hu.1 hLo j (by omega)
          have eP : y 0 0 = J (nP u) := by rw [hB.p, a1.p, c1]
          have hA := (e1 j (Nat.le_refl _) (by omega)).1
          have hL2 : LR L2 (evoN u j) := (hLu.fr hfL).eq (fun k x y => evoN_hi u (.inl (by omega)) _ (by omega)) (evoN_hi u (.inr rfl) _ (by omega))
          simp (disch := omega) only [eP, J_le, Nat.not_le.mpr hj, ↓reduceIte, J_succ j]
          refine ok_bd2 (evoG hn a1 hB hL2 (by rw [c1]; exact hj) (HF.mk' hu hB hfy hA hj (by omega)) (HF.mk' hu hB hfy hA hj (by omega))) ?_
          rintro ⟨y2, L3⟩ ⟨b2, f2, g2⟩
          exact ih (L3, y2) ⟨b2, hfy.tr g2, hfL.tr f2⟩
        · rintro rc ⟨L2, y⟩ ⟨hB, hfy, hfL⟩
          dsimp only at hB hfy hfL
          obtain ⟨a1, b1, c1, d1, e1⟩ := evoN_all hu.1 hLo (nP u) (Nat.le_refl _)
          have eP : y 0 0 = J (nP u) := by rw [hB.p, a1.p, c1]
          simp (disch := omega) only [eP, J_le, Nat.le_refl, ↓reduceIte]
          exact ok_some ⟨hB, hfL⟩
      · rintro ⟨L2, y⟩ ⟨hB, hfL⟩
        dsimp only at hB hfL ⊢
        obtain ⟨a1, b1, c1, d1, e1⟩ := evoN_all hu.1 hLo (nP u) (Nat.le_refl _)
        refine ok_bd2 (turnX hn a1 hB) ?_
        rintro y2 h2
        rw [J_succ k]
        have hwk : ∀ j, j ≠ 4 → weekW (evoN u (nP u)) j = evoN u (nP u) j := fun j hj => by unfold weekW; rw [upd_n _ _ _ hj]
        refine ih q' (L2, y2) ⟨weekW (evoN u (nP u)), h2, fun p hp => ?_, ?_, hfL, hLu.eq (fun j x y => ?_) ?_⟩
        · exact (NW.sm a.t10 b (hS p hp) (ref_NW a b (by omega)) (d1 p (by omega))).week
        · rw [weekW_P, c1, hPu]
        · rw [hwk j (by omega), evoN_hi u (.inl (by omega)) _ (by omega)]
        · rw [hwk 3 (by omega), evoN_hi u (.inr rfl) _ (by omega)]
  · rintro rc ⟨L', x⟩ ⟨u, hu, hS, hPu, hf, hLu⟩ hN
    have e1 : (100 : Int32) < J 101 := by decide
    simp only [e1, ↓reduceIte]
    refine ok_some ⟨?_, hf⟩
    dsimp only
    rw [hN, if_neg (by omega)]
end PPOOR
