section PTRIAL
theorem one_it {w : Nat → Int32} (hI : WInv w) (hL : LWo w) : ∀ k, WInv (itN oneW w k) ∧ LWo (itN oneW w k) ∧ (∀ j, 382 ≤ j ∨ j = 3 ∨ j = 2 → itN oneW w k j = w j)
  | 0 => ⟨hI, hL, fun _ _ => rfl⟩
  | k + 1 => by
    obtain ⟨a, b, d⟩ := one_it hI hL k
    exact ⟨oneW_I a b, oneW_L a b, fun j hj => (oneW_hi a hj).trans (d j hj)⟩
theorem one_LR {L : St} {w : Nat → Int32} (hI : WInv w) (hL : LR L w) (k : Nat) : LR L (itN oneW w k) := by
  obtain ⟨a, b, d⟩ := one_it hI hL.o k
  exact hL.eq (fun j x y => d j (.inl x)) (d 3 (.inr (.inl rfl)))
theorem itN_succ (f : (Nat → Int32) → (Nat → Int32)) (w : Nat → Int32) (k : Nat) : itN f w (k + 1) = f (itN f w k) := rfl
theorem goR {n : Nat} (hn : 5000 < n) (V : St) (hI : WInv (V 1)) (hL : LWo (V 1)) {m : Nat} (hm : m ≤ 60) :
    Ok (lp (fun (rc11 : Int32 × St → Option (St)) (x11l : Int32 × St) =>
(if (J m) ≤ x11l.1 then
some x11l.2
else
bd (m_X12_oneWeek n x11l.2 0) (fun t12 =>
rc11 ((x11l.1 + 1), t12)))) n (0, V)) (fun r => r 1 = itN oneW (V 1) m ∧ Fr [1, 17] V r) := by
  refine ok_forE (fun k x => (J k, x)) m (fun k x => x 1 = itN oneW (V 1) k ∧ Fr [1, 17] V x) ?_ ?_ (by omega) _ rfl ⟨rfl, Fr.rfl _ _⟩
  · rintro rc k x hk ⟨hx, hf⟩ ih
    obtain ⟨a, b, -⟩ := one_it hI hL k
    simp (disch := omega) only [J_le, Nat.not_le.mpr hk, ↓reduceIte, J_succ k]
    refine ok_bd2 (weekR hn x (by rw [hx]; exact a) (by rw [hx]; exact b)) ?_
    rintro V' ⟨e, g⟩
    exact ih V' ⟨by rw [e, hx, itN_succ], hf.tr g⟩
  · rintro rc x hx
    simp (disch := omega) only [J_le, Nat.le_refl, ↓reduceIte]
    exact ok_some hx
theorem goX {n : Nat} (hn : 5000 < n) {v L D : St} {w : Nat → Int32} (hR : HR v w) (hL : LR L w) (hD : DW D) {m : Nat} (hm : m ≤ 60) {β : Type} (fin : Int32 × St × St × St → β) :
    Ok (lp (fun (rc3 : Int32 × Int32 × St × St × St → Option β) (x3l : Int32 × Int32 × St × St × St) =>
(if (J m) ≤ x3l.2.1 then
some (fin (x3l.1, x3l.2.2.1, x3l.2.2.2.1, x3l.2.2.2.2))
else
bd (m_X3_passWeek n x3l.2.2.1 x3l.2.2.2.1 x3l.2.2.2.2) (fun t4 =>
nm (x3l.1 + t4.1) (fun x2_5 =>
rc3 (x2_5, (x3l.2.1 + 1), t4.2.1, t4.2.2.1, t4.2.2.2))))) n (0, 0, v, L, D)) (fun r => ∃ v' L' D', r = fin (J (gnN (itN oneW w m)) - J (gnN w), v', L', D') ∧ HR v' (itN oneW w m) ∧ Fr [6] L L' ∧ DW D' ∧ (DR D w → DR D' (itN oneW w m))) := by
  refine ok_forE (fun k (x : St × St × St) => (J (gnN (itN oneW w k)) - J (gnN w), J k, x.1, x.2.1, x.2.2)) m (fun k x => HR x.1 (itN oneW w k) ∧ Fr [6] L x.2.1 ∧ DW x.2.2 ∧ (DR D w → DR x.2.2 (itN oneW w k))) ?_ ?_ (by omega) (v, L, D) ?_ ⟨hR, Fr.rfl _ _, hD, fun h => h⟩
  · rintro rc k ⟨x, L', D'⟩ hk ⟨hx, hf, hd, hdd⟩ ih
    dsimp only at hx hf hd hdd
    simp (disch := omega) only [J_le, Nat.not_le.mpr hk, ↓reduceIte, J_succ k]
    refine ok_bd2 (passX hn hx.1 hx.2.1 ((one_LR hR.1 hL k).fr hf) hd) ?_
    rintro ⟨c, v1, L1, D1⟩ ⟨h1, h2, h3, h4, h5⟩
    dsimp only at h1 h2 h3 h4 h5 ⊢
    have e := gn_one hx.1 (one_LR hR.1 hL k).o
    rw [nm_s, h1, show J (gnN (itN oneW w k)) - J (gnN w) + thiefB (payTo (snowW (itN oneW w k)) (2 * nP (itN oneW w k))) = J (gnN (itN oneW w (k + 1))) - J (gnN w) from by rw [itN_succ, e]; grind]
    exact ih (v1, L1, D1) ⟨h2, hf.tr h3, h4, fun h => h5 (hdd h)⟩
  · rintro rc ⟨x, L', D'⟩ ⟨hx, hf, hd, hdd⟩
    simp (disch := omega) only [J_le, Nat.le_refl, ↓reduceIte]
    exact ok_some ⟨x, L', D', rfl, hx, hf, hd, hdd⟩
  · show _ = (J (gnN w) - J (gnN w), J 0, v, L, D)
    rw [show J (gnN w) - J (gnN w) = 0 from by grind]; rfl
theorem HR.seed {v : St} {w : Nat → Int32} (hR : HR v w) (x : Int32) : HR (su v 8 0 x) (upd w 11 x) := by
  have h5 := hR.1.p5
  refine ⟨hR.1.u_seed x, hR.2.1.u_seed hR.1 x, HW.ag hR.1.t10 (hR.2.2.fr ((Fr.rfl [8] v).put (by simp) _ _) (by simp) (by simp)) (fun p hp => ?_) (by unfold nP; rw [upd_n _ _ _ (by omega)])⟩
  exact ⟨fun k a b => upd_n _ _ _ (by omega), fun k a b => upd_n _ _ _ (by omega), fun k a b => upd_n _ _ _ (by omega), fun k a => upd_n _ _ _ (by omega), upd_n _ _ _ (by omega), upd_n _ _ _ (by omega)⟩
theorem tryX {n : Nat} (hn : 5000 < n) {v0 v L s D : St} {w : Nat → Int32} (hR : HR v w) (hL : LR L w) (hD : DW D) (sd : Int32) {m : Nat} (hm : m ≤ 60) :
    Ok (m_X11_tryWeeks n v0 v L s D sd (J m)) (fun r => Fr [6] L r.1 ∧ HR r.2.1 (itN oneW (upd w 11 sd) m) ∧ DW r.2.2) := by
  unfold m_X11_tryWeeks
  refine ok_bd2 (copyHR hn s hR) ?_
  rintro s1 hs1
  rw [nm_s]
  have hs2 := hs1.seed sd
  have hL2 : LR L (upd w 11 sd) := hL.u (by omega) (by omega) _
  generalize su s1 8 0 sd = s2 at hs2 ⊢
  generalize upd w 11 sd = u at hs2 hL2 ⊢
  refine ok_forE (fun k (x : St × St × St) => (J k, x.1, x.2.1, x.2.2)) m (fun k x => Fr [6] L x.1 ∧ HR x.2.1 (itN oneW u k) ∧ DW x.2.2) ?_ ?_ (by omega) (L, s2, D) rfl ⟨Fr.rfl _ _, hs2, hD⟩
  · rintro rc k ⟨L', x, D'⟩ hk ⟨hf, hx, hd⟩ ih
    dsimp only at hx hf hd
    simp (disch := omega) only [J_le, Nat.not_le.mpr hk, ↓reduceIte, J_succ k]
    refine ok_bd2 (passX hn hx.1 hx.2.1 ((one_LR hs2.1 hL2 k).fr hf) hd) ?_
    rintro ⟨c, v1, L1, D1⟩ ⟨h1, h2, h3, h4, h5⟩
    dsimp only at h1 h2 h3 h4 h5 ⊢
    exact ih (L1, v1, D1) ⟨hf.tr h3, h2, h4⟩
  · rintro rc ⟨L', x, D'⟩ hx
    simp (disch := omega) only [J_le, Nat.le_refl, ↓reduceIte]
    exact ok_some hx
-- span
def spN (w : Nat → Int32) (m k : Nat) : Nat := gnN (itN oneW (upd w 11 (J k)) m)
def spF (w : Nat → Int32) (m : Nat) : Nat → Nat
  | 0 => 10
  | k + 1 => min (spF w m k) (spN w m (k + 1))
def spM (w : Nat → Int32) (m : Nat) : Nat → Nat
  | 0 => 0
  | k + 1 => max (spM w m k) (spN w m (k + 1))
theorem spN_le {w : Nat → Int32} (hI : WInv w) (hL : LWo w) (m k : Nat) : spN w m k ≤ 10 := gn_le (one_it (hI.u_seed _) (hL.u (by omega) (by omega) _) m).1
theorem spF_le (w : Nat → Int32) (m : Nat) : ∀ k, spF w m k ≤ 10
  | 0 => Nat.le_refl _
  | k + 1 => by have := spF_le w m k; unfold spF; omega
theorem spM_le {w : Nat → Int32} (hI : WInv w) (hL : LWo w) (m : Nat) : ∀ k, spM w m k ≤ 10
  | 0 => by unfold spM; omega
  | k + 1 => by have := spM_le hI hL m k; have := spN_le hI hL m (k + 1); unfold spM; omega
theorem spanX {n : Nat} (hn : 5000 < n) {v0 v L s D : St} {w : Nat → Int32} (hR : HR v w) (hL : LR L w) (hD : DW D) {m : Nat} (hm : m ≤ 60) :
    Ok (lp (fun (rc3 : Int32 × Int32 × Int32 × St × St × St → Option (Int32 × Int32 × St × St × St)) (x3l : Int32 × Int32 × Int32 × St × St × St) =>
(if 6 < x3l.2.2.1 then
some (x3l.1, x3l.2.1, x3l.2.2.2.1, x3l.2.2.2.2.1, x3l.2.2.2.2.2)
else
bd (m_X11_tryWeeks n v0 v x3l.2.2.2.1 x3l.2.2.2.2.1 x3l.2.2.2.2.2 x3l.2.2.1 (J m)) (fun t4 =>
bd (m_X3_goneThings n t4.2.1) (fun t5 =>
bd (m_J6_bitCount_0f7a4 n t5) (fun t6 =>
nm (x_min x3l.1 t6) (fun x3_7 =>
nm (x_max x3l.2.1 t6) (fun x4_8 =>
rc3 (x3_7, x4_8, (x3l.2.2.1 + 1), t4.1, t4.2.1, t4.2.2)))))))) n (10, 0, 1, L, s, D)) (fun r => r.1 = J (spF w m 6) ∧ r.2.1 = J (spM w m 6) ∧ Fr [6] L r.2.2.1 ∧ DW r.2.2.2.2) := by
  refine ok_forE (fun k (x : St × St × St) => (J (spF w m k), J (spM w m k), J (k + 1), x.1, x.2.1, x.2.2)) 6 (fun k x => Fr [6] L x.1 ∧ DW x.2.2) ?_ ?_ (by omega) (L, s, D) rfl ⟨Fr.rfl _ _, hD⟩
  · rintro rc k ⟨L', x, D'⟩ hk ⟨hf, hd⟩ ih
    dsimp only at hf hd
    have e1 : ¬ (6 : Int32) < J (k + 1) := by rw [show (6 : Int32) = J 6 from rfl, J_lt (by omega) (by omega)]; omega
    simp only [e1, ↓reduceIte]
    refine ok_bd2 (tryX hn hR (hL.fr hf) hd (J (k + 1)) hm) ?_
    rintro ⟨L1, s1, D1⟩ ⟨h1, h2, h3⟩
    dsimp only at h1 h2 h3 ⊢
    have a1 := spF_le w m k
    have a2 := spM_le hR.1 hL.o m k
    have a3 := spN_le hR.1 hL.o m (k + 1)
    have eg : J (gnN (itN oneW (upd w 11 (J (k + 1))) m)) = J (spN w m (k + 1)) := rfl
    rw [XgoneThings hn h2.1 h2.2.1, bd_s, bc_s, bd_s, gn_bc h2.1, eg, nm_s, nm_s, J_min (by omega) (by omega), J_max (by omega) (by omega), J_succ (k + 1)]
    exact ih (L1, s1, D1) ⟨hf.tr h1, h3⟩
  · rintro rc ⟨L', x, D'⟩ ⟨hf, hd⟩
    have e1 : (6 : Int32) < J (6 + 1) := by decide
    simp only [e1, ↓reduceIte]
    exact ok_some ⟨rfl, rfl, hf, hd⟩
def spR (w : Nat → Int32) (m : Nat) (c : Int32) (k : Nat) : Int32 := if k = 0 then -1 else if c = 0 then J (spF w m k) else J (spM w m k)
theorem spanR {n : Nat} (hn : 5000 < n) (V : St) (hI : WInv (V 1)) (hL : LWo (V 1)) {m : Nat} (hm : m ≤ 60) (c : Int32) :
    Ok (bd (m_X12_keepsAll n V) (fun t5 =>
lp (fun (rc6 : Int32 × Int32 × St → Option (Int32 × St)) (x6l : Int32 × Int32 × St) =>
(if 6 < x6l.2.1 then
some (x6l.1, x6l.2.2)
else
nm (su x6l.2.2 1 11 x6l.2.1) (fun u7 =>
bd (lp (fun (rc13 : Int32 × St → Option (St)) (x13l : Int32 × St) =>
(if (J m) ≤ x13l.1 then
some x13l.2
else
bd (m_X12_oneWeek n x13l.2 0) (fun t14 =>
rc13 ((x13l.1 + 1), t14)))) n (0, u7)) (fun (t8 : St) =>
bd (m_X12_goneOnes n t8) (fun t9 =>
bd (m_J6_bitCount_0f7a4 n t9) (fun t10 =>
bd (m_X12_bringsBack n t8) (fun t11 =>
bd ((if 0 ≤ x6l.1 then
(if c = 0 then
some (x_min x6l.1 t10)
else
some (x_max x6l.1 t10))
else
some t10)) (fun (t12 : Int32) =>
rc6 (t12, (x6l.2.1 + 1), t11))))))))) n ((-1), 1, t5))) (fun r => r.1 = spR (V 1) m c 6 ∧ Fr [4, 17] V r.2) := by
  rw [keepR hn, bd_s]
  have k4 : Fr [4, 17] V (sA V 4 (cpN (V 1) (V 4) 382)) := (Fr.rfl _ _).row (by simp) _
  have k1 := keep_1 V
  have kk : ∀ j, j < 382 → sA V 4 (cpN (V 1) (V 4) 382) 4 j = V 1 j := fun j hj => by rw [sA_e]; unfold cpN; rw [if_pos hj]
  generalize sA V 4 (cpN (V 1) (V 4) 382) = K0 at k4 k1 kk ⊢
  refine ok_forE (fun k (x : St) => (spR (V 1) m c k, J (k + 1), x)) 6 (fun k x => Fr [17] K0 x) ?_ ?_ (by omega) K0 rfl (Fr.rfl _ _)
  · rintro rc k x hk hf ih
    have e1 : ¬ (6 : Int32) < J (k + 1) := by rw [show (6 : Int32) = J 6 from rfl, J_lt (by omega) (by omega)]; omega
    have ex : x 1 = V 1 := by rw [hf 1 (by simp)]; exact k1
    simp only [e1, ↓reduceIte, nm_s]
    have e2 : su x 1 11 (J (k + 1)) 1 = upd (V 1) 11 (J (k + 1)) := by rw [su_e, ex]
    have f2 : Fr [1, 17] K0 (su x 1 11 (J (k + 1))) := (hf.mono (by simp)).put (by simp) _ _
    generalize su x 1 11 (J (k + 1)) = U at e2 f2 ⊢
    have hIU : WInv (U 1) := by rw [e2]; exact hI.u_seed _
    have hLU : LWo (U 1) := by rw [e2]; exact hL.u (by omega) (by omega) _
    refine ok_bd2 (goR hn U hIU hLU hm) ?_
    rintro U2 ⟨e3, f3⟩
    obtain ⟨a, b, d⟩ := one_it hIU hLU m
    have hI2 : WInv (U2 1) := by rw [e3]; exact a
    rw [goneR hn hI2, bd_s, bc_s, bd_s, gn_bc hI2, backR hn, bd_s, J_succ (k + 1)]
    have eg : gnN (U2 1) = spN (V 1) m (k + 1) := by rw [e3, e2]; rfl
    rw [eg]
    have a3 := spN_le hI hL m (k + 1)
    have a1 := spF_le (V 1) m k
    have a2 := spM_le hI hL m k
    have ev : (if 0 ≤ spR (V 1) m c k then (if c = 0 then some (x_min (spR (V 1) m c k) (J (spN (V 1) m (k + 1)))) else some (x_max (spR (V 1) m c k) (J (spN (V 1) m (k + 1))))) else some (J (spN (V 1) m (k + 1)))) = some (spR (V 1) m c (k + 1)) := by
      unfold spR
      rw [if_neg (show ¬ k + 1 = 0 by omega)]
      by_cases q : k = 0
      · subst q
        rw [if_pos rfl, if_neg (by decide)]
        unfold spF spM spF spM
        rw [Nat.min_eq_right a3, Nat.max_eq_right (by omega)]
        split <;> rfl
      · rw [if_neg q]
        by_cases qc : c = 0
        · rw [if_pos qc, if_pos (by have := J_nn (k := spF (V 1) m k) (by omega); grind), if_pos qc, if_pos qc, J_min (by omega) (by omega)]; rfl
        · rw [if_neg qc, if_pos (by have := J_nn (k := spM (V 1) m k) (by omega); grind), if_neg qc, if_neg qc, J_max (by omega) (by omega)]; rfl
    rw [ev, bd_s]
    refine ih _ ?_
    intro f hf'
    have hf17 : f ≠ 17 := by simpa using hf'
    by_cases e : f = 1
    · subst e
      rw [sA_e, k1]
      funext j
      unfold cpN
      by_cases q : j < 382
      · rw [if_pos q, f3 4 (by simp), f2 4 (by simp), kk j q]
      · rw [if_neg q, e3, d j (.inl (by omega)), e2, upd_n _ _ _ (by omega)]
    · rw [sA_n _ _ _ e, f3 f (by simp; exact ⟨e, hf17⟩), f2 f (by simp; exact ⟨e, hf17⟩)]
  · rintro rc x hf
    have e1 : (6 : Int32) < J (6 + 1) := by decide
    simp only [e1, ↓reduceIte]
    exact ok_some ⟨by dsimp only, k4.tr (hf.mono (by simp))⟩
end PTRIAL
