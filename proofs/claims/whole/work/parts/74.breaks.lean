section PBREAK
def brkS (w : Nat → Int32) (p k : Nat) : Bool := decide (itN calmW w (k + 1) (15 + 4 * p) = 1)
def fb (w : Nat → Int32) (p : Nat) : Nat := fstN (brkS w p) 100
theorem fb_le (w : Nat → Int32) (p : Nat) : fb w p ≤ 100 := fstN_le _ _
theorem brk_iff (w : Nat → Int32) (p k : Nat) : brkS w p k = true ↔ calmW (itN calmW w k) (15 + 4 * p) = 1 := by
  unfold brkS; rw [decide_eq_true_eq]; exact Iff.rfl
theorem breaksR {n : Nat} (hn : 5000 < n) (V : St) (hI : WInv (V 1)) (hL : LWo (V 1)) {p : Nat} (hp : p < nP (V 1)) : Ok (m_X12_breaksIn n V (J p)) (fun r => r.1 = J (fb (V 1) p + 1) ∧ Fr [4, 17] V r.2) := by
  have h5 := hI.p5
  have hle := fstN_le (brkS (V 1) p)
  unfold m_X12_breaksIn
  rw [keepR hn, bd_s]
  refine ok_bd2 (P := fun r => r.1 = J (fb (V 1) p + 1) ∧ Fr [1, 17] (sA V 4 (cpN (V 1) (V 4) 382)) r.2 ∧ ∀ j, 382 ≤ j → r.2 1 j = V 1 j) ?_ ?_
  · refine ok_forE (fun k (x : St) => (J ((if fstN (brkS (V 1) p) k < k then fstN (brkS (V 1) p) k else 100) + 1), J (k + 1), x)) 100 (fun k x => x 1 = itN calmW (V 1) k ∧ Fr [1, 17] (sA V 4 (cpN (V 1) (V 4) 382)) x) ?_ ?_ (by omega) _ ?_ ⟨keep_1 V, Fr.rfl _ _⟩
    · rintro rc k x hk ⟨hx, hf⟩ ih
      obtain ⟨a, b, c, d⟩ := calm_it hI hL k
      have h1 := hle k
      have e1 : ¬ (100 : Int32) < J (k + 1) := by rw [show (100 : Int32) = J 100 from rfl, J_lt (by omega) (by omega)]; omega
      simp only [e1, ↓reduceIte]
      by_cases hf1 : fstN (brkS (V 1) p) k < k
      · rw [if_pos hf1, if_neg (by rw [show (101 : Int32) = J 101 from rfl, J_inj (by omega) (by omega)]; omega)]
        refine ok_some ⟨?_, hf, fun j hj => by dsimp only; rw [hx]; exact d j (by omega)⟩
        dsimp only; unfold fb; have e9 := fstN_st' (N := 100) (brkS (V 1) p) hf1 (by omega); rw [e9]
      · rw [if_neg hf1, if_pos (show J (100 + 1) = 101 from rfl)]
        refine ok_bd2 (calmR hn x (by rw [hx]; exact a) (by rw [hx]; exact b)) ?_
        rintro V' ⟨e, g⟩
        rw [isBroken_s n V' (by omega), bd_s, e, hx]
        have es := fstN_no _ hf1
        have hv : (if b2i (calmW (itN calmW (V 1) k) (15 + 4 * p) = 1) = 0 then some 101 else some (J (k + 1))) = some (J ((if fstN (brkS (V 1) p) (k + 1) < k + 1 then fstN (brkS (V 1) p) (k + 1) else 100) + 1)) := by
          rw [es]
          by_cases q : brkS (V 1) p k = true
          · have q' := (brk_iff (V 1) p k).mp q
            rw [show b2i (calmW (itN calmW (V 1) k) (15 + 4 * p) = 1) = 1 from if_pos q', if_neg (by decide), q, if_pos rfl, if_pos (by omega)]
          · have q' := fun h => q ((brk_iff (V 1) p k).mpr h)
            rw [show b2i (calmW (itN calmW (V 1) k) (15 + 4 * p) = 1) = 0 from if_neg q', if_pos rfl, if_neg q, if_neg (by omega)]; rfl
        rw [hv, bd_s, J_succ (k + 1)]
        exact ih V' ⟨by rw [e, hx]; rfl, hf.tr g⟩
    · rintro rc x ⟨hx, hf⟩
      obtain ⟨a, b, c, d⟩ := calm_it hI hL 100
      have h1 := hle 100
      have e1 : (100 : Int32) < J (100 + 1) := by decide
      simp only [e1, ↓reduceIte]
      refine ok_some ⟨?_, hf, fun j hj => by dsimp only; rw [hx]; exact d j (by omega)⟩
      dsimp only
      unfold fb
      by_cases q : fstN (brkS (V 1) p) 100 < 100
      · rw [if_pos q]
      · rw [if_neg q, show fstN (brkS (V 1) p) 100 = 100 from by omega]
    · rfl
  rintro ⟨a, U⟩ ⟨h1, h2, h3⟩
  dsimp only at h1 h2 h3 ⊢
  rw [backR hn, bd_s]
  exact ok_some ⟨h1, keep_back h2 h3⟩
theorem breaksX {n : Nat} (hn : 5000 < n) {v0 v L s : St} {w : Nat → Int32} (hR : HR v w) (hL : LR L w) {p : Nat} (hp : p < nP w) :
    Ok (m_X11_weeksToBreak n v0 v L s (J p)) (fun r => r.1 = (if w (15 + 4 * p) = 1 then -1 else if fb w p < 100 then J (fb w p + 1) else -1) ∧ Fr [6] L r.2.1) := by
  have h5 := hR.1.p5
  unfold m_X11_weeksToBreak
  simp (disch := omega) only [ix_J, ↓reduceIte, J_nat]
  rw [hR.2.1.broken hp]
  rcases (hR.1.pl hp).2.2.2 with hb | hb
  · rw [hb, if_pos rfl, if_neg (by decide)]
    refine ok_bd2 (copyHR hn s hR) ?_
    rintro s1 hs1
    refine ok_fst (fun k (x : St × St) => (J (k + 1), x.1, x.2)) (brkS w p) 100 (fun k x => ∃ u, HR x.2 u ∧ AG p (itN calmW w k) u ∧ Fr [6] L x.1 ∧ LR L u) ?_ ?_ (by omega) (L, s1) rfl ⟨w, hs1, AG.rfl p w, Fr.rfl _ _, hL⟩
    · rintro rc k ⟨L', x⟩ hk ⟨u, hu, hS, hf, hLu⟩ hfk ih hfd
      dsimp only at hu hf
      obtain ⟨a, b, c, d⟩ := calm_it hR.1 hL.o k
      have hpu : p < nP u := by rw [hS.eqP, c]; exact hp
      have e1 : ¬ (100 : Int32) < J (k + 1) := by rw [show (100 : Int32) = J 100 from rfl, J_lt (by omega) (by omega)]; omega
      simp only [e1, ↓reduceIte]
      refine ok_bd2 (ageG hn hu.1 hu.2.1 (hLu.fr hf) hpu (hu.hf (by omega)) (hu.2.2 _ (by omega)).1) ?_
      rintro ⟨v1, L1⟩ ⟨b1, f1, -⟩
      dsimp only at b1 f1 ⊢
      refine ok_bd2 (turnX hn (ageP_I hu.1 hLu.o hpu) b1) ?_
      rintro v2 h2
      have hA := brk_calm a b (by rw [c]; exact hp) hS hLu.o
      have hp2 : p < nP (weekW (ageP u p)) := by
        rw [show nP (weekW (ageP u p)) = nP (ageP u p) from by unfold weekW nP; rw [upd_n _ _ _ (by omega)], ageP_P]; exact hpu
      rw [h2.2.1.broken hp2, hA.broken]
      by_cases q : brkS w p k = true
      · have q' := (brk_iff w p k).mp q
        rw [q', if_neg (by decide)]
        refine ok_some ⟨?_, hf.tr f1⟩
        dsimp only
        have := hfd q
        unfold fb
        rw [this, if_pos hk]
      · have q' := fun h => q ((brk_iff w p k).mpr h)
        have hz : calmW (itN calmW w k) (15 + 4 * p) = 0 := by
          have hbb := ((calmW_I a b).pl (p := p) (by rw [calmW_P, c]; exact hp)).2.2.2
          rcases hbb with h | h
          · exact h
          · exact absurd h q'
        rw [hz, if_pos rfl, J_succ (k + 1)]
        have e3 : ∀ j, 82 ≤ j ∨ j = 3 → weekW (ageP u p) j = u j := fun j hj => by unfold weekW; rw [upd_n _ _ _ (by omega), ageP_hi _ (by omega) hj]
        exact ih (by simpa using q) (L1, v2) ⟨weekW (ageP u p), h2, hA, hf.tr f1, hLu.eq (fun j a b => e3 j (.inl (by omega))) (e3 3 (.inr rfl))⟩
    · rintro rc ⟨L', x⟩ ⟨u, hu, hS, hf, hLu⟩ hN
      have e1 : (100 : Int32) < J (100 + 1) := by decide
      simp only [e1, ↓reduceIte]
      refine ok_some ⟨?_, hf⟩
      dsimp only
      unfold fb
      rw [hN, if_neg (by omega)]
  · rw [hb, if_neg (by decide), if_pos rfl]
    exact ok_some ⟨rfl, Fr.rfl _ _⟩
-- LAST
def nb (w : Nat → Int32) (p : Nat) : Nat := if w (15 + 4 * p) = 1 then 0 else fb w p + 1
theorem nb_le (w : Nat → Int32) (p : Nat) : nb w p ≤ 101 := by unfold nb; have := fb_le w p; split <;> omega
def laF (w : Nat → Int32) (p : Nat) (a : Int32 × Nat) : Int32 × Nat := if nb w p ≤ a.2 then a else (J p, nb w p)
def laS (w : Nat → Int32) (k : Nat) : Int32 × Nat := foldN (laF w) (-1, 0) k
theorem laS_le (w : Nat → Int32) : ∀ k, (laS w k).2 ≤ 101
  | 0 => by show (0 : Nat) ≤ 101; omega
  | k + 1 => by
    have := laS_le w k
    show (laF w k (laS w k)).2 ≤ 101
    unfold laF; split
    · exact this
    · exact nb_le w k
theorem laS_0 (w : Nat → Int32) : ∀ k, k < 100 → (laS w k).1 = -1 → (laS w k).2 = 0
  | 0, _, _ => rfl
  | k + 1, hk, h => by
    have ih := laS_0 w k (by omega)
    have h' : (laF w k (laS w k)).1 = -1 := h
    show (laF w k (laS w k)).2 = 0
    unfold laF at h' ⊢
    split at h'
    · rename_i q; rw [if_pos q]; exact ih h'
    · exact absurd h' (J_ne_neg (by omega))
theorem laS_st (w : Nat → Int32) {k : Nat} (h : (laS w k).2 = 101) : ∀ d, laS w (k + d) = laS w k
  | 0 => rfl
  | d + 1 => by
    have ih := laS_st w h d
    show laF w (k + d) (laS w (k + d)) = _
    rw [ih]; unfold laF; rw [if_pos (by rw [h]; exact nb_le w _)]
theorem lastR {n : Nat} (hn : 5000 < n) (V : St) (hI : WInv (V 1)) (hL : LWo (V 1)) : Ok (m_X12_last n V) (fun r => r.1 = (laS (V 1) (nP (V 1))).1 ∧ r.2 0 0 = 0 ∧ Fr [0, 4, 17] V r.2) := by
  have h5 := hI.p5
  unfold m_X12_last
  rw [nm_s]
  have e0 : su V 0 0 0 1 = V 1 := su01 V 0
  refine ok_forE (fun k (x : St) => ((laS (V 1) k).1, J (laS (V 1) k).2, J k, x)) (nP (V 1)) (fun k x => Fr [4, 17] (su V 0 0 0) x) ?_ ?_ (by omega) _ rfl (Fr.rfl _ _)
  · rintro rc k x hk hf ih
    have e1 : x 1 = V 1 := by rw [hf 1 (by simp)]; exact e0
    have hle := laS_le (V 1) k
    have hnb := nb_le (V 1) k
    simp (disch := omega) only [planks_s, e1, hI.p, bd_s, J_le, Nat.not_le.mpr hk, ↓reduceIte, isBroken_s]
    refine ok_bd2 (P := fun r => r.1 = J (nb (V 1) k) ∧ Fr [4, 17] x r.2) ?_ ?_
    · by_cases hb : V 1 (15 + 4 * k) = 1
      · rw [show b2i (V 1 (15 + 4 * k) = 1) = 1 from if_pos hb, if_neg (by decide)]
        exact ok_some ⟨by unfold nb; rw [if_pos hb]; rfl, Fr.rfl _ _⟩
      · rw [show b2i (V 1 (15 + 4 * k) = 1) = 0 from if_neg hb, if_pos rfl]
        refine ok_bd2 (breaksR hn x (by rw [e1]; exact hI) (by rw [e1]; exact hL) (p := k) (by rw [e1]; exact hk)) ?_
        rintro ⟨a, U⟩ ⟨h1, h2⟩
        dsimp only at h1 h2 ⊢
        exact ok_some ⟨by rw [h1, e1]; unfold nb; rw [if_neg hb], h2⟩
    · rintro ⟨a, U⟩ ⟨h1, h2⟩
      dsimp only at h1 h2 ⊢
      subst h1
      have hs : laS (V 1) (k + 1) = laF (V 1) k (laS (V 1) k) := rfl
      have ih' := ih U (hf.tr h2)
      rw [hs] at ih'
      unfold laF at ih'
      rw [J_succ k]
      by_cases q : nb (V 1) k ≤ (laS (V 1) k).2
      · rw [if_pos q] at ih'
        rw [if_pos ((J_le (by omega) (by omega)).mpr q), bd_s, nm_s, J_max (by omega) (by omega), Nat.max_eq_left q]
        exact ih'
      · rw [if_neg q] at ih'
        rw [if_neg (fun h => q ((J_le (by omega) (by omega)).mp h)), bd_s, nm_s, J_max (by omega) (by omega), Nat.max_eq_right (by omega)]
        exact ih'
  · rintro rc x hf
    have e1 : x 1 = V 1 := by rw [hf 1 (by simp)]; exact e0
    simp (disch := omega) only [planks_s, e1, hI.p, bd_s, J_le, Nat.le_refl, ↓reduceIte]
    refine ok_some ⟨rfl, ?_, ?_⟩
    · dsimp only; rw [hf 0 (by simp), su00]
    · exact Fr.tr ((Fr.rfl _ _).put (by simp) _ _) (hf.mono (by simp))
theorem lastX {n : Nat} (hn : 5000 < n) {v0 v L s : St} {w : Nat → Int32} (hR : HR v w) (hL : LR L w) : Ok (m_X11_last n v0 v L s) (fun r => r.1 = (laS w (nP w)).1 ∧ Fr [6] L r.2.1) := by
  have h5 := hR.1.p5
  unfold m_X11_last
  refine ok_forE (fun k (x : St × St) => ((laS w k).1, (if (laS w k).1 = -1 then -1 else J (laS w k).2), J k, x.1, x.2)) (nP w) (fun k x => Fr [6] L x.1 ∧ (laS w k).2 ≤ 100) ?_ ?_ (by omega) (L, s) rfl ⟨Fr.rfl _ _, by show (0 : Nat) ≤ 100; omega⟩
  · rintro rc k ⟨L', x⟩ hk ⟨hf, h100⟩ ih
    dsimp only at hf
    simp (disch := omega) only [hR.2.1.p, hR.1.p, J_le, Nat.not_le.mpr hk, ↓reduceIte, ix_J, J_nat, jn_s, hR.2.1.broken hk]
    have hs : laS w (k + 1) = laF w k (laS w k) := rfl
    rcases (hR.1.pl hk).2.2.2 with hb | hb
    · have hb1 : ¬ w (15 + 4 * k) = 1 := by rw [hb]; decide
      have en : nb w k = fb w k + 1 := by unfold nb; rw [if_neg hb1]
      have hfb := fb_le w k
      rw [hb, if_pos rfl]
      refine ok_bd2 (breaksX hn hR (hL.fr hf) hk) ?_
      rintro ⟨a, L1, s1⟩ ⟨h1, h2⟩
      dsimp only at h1 h2 ⊢
      subst h1
      rw [if_neg hb1]
      by_cases q : fb w k < 100
      · rw [if_pos q, if_neg (J_ne_neg (by omega)), J_succ k]
        have ih' := fun h => ih (L1, s1) ⟨hf.tr h2, h⟩
        rw [hs] at ih'
        unfold laF at ih'
        by_cases q2 : nb w k ≤ (laS w k).2
        · rw [if_pos q2] at ih'
          have hne : ¬ (laS w k).1 = -1 := fun h => by have := laS_0 w k (by omega) h; omega
          rw [if_neg hne] at ih' ⊢
          rw [if_pos (by rw [J_le (by omega) (by omega)]; omega)]
          exact ih' h100
        · rw [if_neg q2] at ih'
          have hc : ¬ J (fb w k + 1) ≤ (if (laS w k).1 = -1 then -1 else J (laS w k).2) := by
            split
            · have := J_nn (k := fb w k + 1) (by omega); grind
            · rw [J_le (by omega) (by omega)]; omega
          rw [if_neg hc, ← en]
          have := ih' (by dsimp only; omega)
          rw [if_neg (J_ne_neg (by omega))] at this
          exact this
      · rw [if_neg q, if_pos rfl]
        refine ok_some ⟨?_, hf.tr h2⟩
        dsimp only
        have e1 : laS w (k + 1) = (J k, nb w k) := by rw [hs]; unfold laF; rw [if_neg (by omega)]
        have e2 : (laS w (k + 1)).2 = 101 := by rw [e1]; dsimp only; omega
        have e3 := laS_st w e2 (nP w - (k + 1))
        rw [show k + 1 + (nP w - (k + 1)) = nP w from by omega] at e3
        rw [e3, e1]
    · have en : nb w k = 0 := by unfold nb; rw [if_pos hb]
      rw [hb, if_neg (by decide), J_succ k]
      have ih' := ih (L', x) ⟨hf, by rw [hs]; unfold laF; rw [en, if_pos (by omega)]; exact h100⟩
      rw [hs] at ih'
      unfold laF at ih'
      rw [en, if_pos (by omega)] at ih'
      exact ih'
  · rintro rc ⟨L', x⟩ ⟨hf, h100⟩
    simp (disch := omega) only [hR.2.1.p, hR.1.p, J_le, Nat.le_refl, ↓reduceIte]
    exact ok_some ⟨rfl, hf⟩
end PBREAK
