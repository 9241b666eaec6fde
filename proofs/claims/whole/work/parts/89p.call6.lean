section PCALL6
theorem weighH {n : Nat} (hn : 5000 < n) {v : St} {w : Nat → Int32} (hI : WInv w) (hB : HB v w) : Ok (m_X3_weigh n v) (fun v' => HR v' w) :=
  (Xweigh hn hI hB).mono (fun v' hv => ⟨hI, hB.fr hv.1 (by simp), hv.2⟩)
theorem remU {n : Nat} (hn : 5000 < n) {p v d : St} {H D : Nat → St} {V : St} (hP : PR p H D V) (hR : HR v (V 1)) (hD : DR d (V 1)) :
    ∃ r W, m_X8_remember n p H D v d = some r ∧ m_X12_remembers n (su V 0 0 0) = some W ∧ Fr [0, 5, 7] V W ∧ W 0 0 = 0 ∧ W 1 = V 1 ∧ PR r.1 r.2.1 r.2.2 W := by
  have hP' : PR p H D (su V 0 0 0) := hP.eq (su_n _ _ _ _ (by decide)) (by rw [su_n _ _ _ _ (by decide)]) (by rw [su01]) (by rw [su01])
  obtain ⟨r, er, W, eW, fW, pW⟩ := remX hn hP' (v := v) (d := d) (by rw [su01]; exact hR) (by rw [su01]; exact hD)
  exact ⟨r, W, er, eW, ((fr0 V 0).mono (by simp)).tr (fW.mono (by simp)), by rw [fW 0 (by simp)]; exact su00 _ _, by rw [fW 1 (by simp)]; exact su01 _ _, pW⟩
section
variable {v0 v1 v3 v4 v5 v6 v7 v10 v12 v13 v14 v15 : St} {v16 v17 : Nat → St} {V : St}
theorem RI.ch (h : RI v0 v1 v3 v4 v5 v6 v7 v10 v12 v13 v14 v15 v16 v17 V) {W V' v5' v6' v7' v12' : St} {v16' v17' : Nat → St} (hW : Fr [0, 5, 7] V W) (hP : PR v12' v16' v17' W) (hV : Fr [1, 17] W V') (hR : HR v5' (V' 1)) (hL : LR v6' (V' 1)) (hD : DR v7' (V' 1)) (e2 : V' 1 2 = V 1 2) (e3 : V' 1 3 = V 1 3) (eW : W 1 = V 1) : RI v0 v1 v3 v4 v5' v6' v7' v10 v12' v13 v14 v15 v16' v17' V' := by
  have g : ∀ f, f ∉ [0, 1, 5, 7, 17] → V' f = V f := fun f hf => by
    rw [hV f (fun q => hf (by simp at q ⊢; omega)), hW f (fun q => hf (by simp at q ⊢; omega))]
  refine ⟨h.tr.eq rfl (g 8 (by simp)) (by rw [g 9 (by simp)]), by rw [g 14 (by simp)]; exact h.wr, by rw [e2]; exact h.tx, h.rd, hR, hL, hD, h.dw, hP.eq (hV 5 (by simp)) (by rw [hV 7 (by simp)]) (by rw [e2, eW]) (by rw [e3, eW]), h.im.eq rfl rfl (by rw [g 6 (by simp)]) (g 2 (by simp))⟩
theorem RI.sq (h : RI v0 v1 v3 v4 v5 v6 v7 v10 v12 v13 v14 v15 v16 v17 V) {V' : St} (hV : Fr [0] V V') : RI v0 v1 v3 v4 v5 v6 v7 v10 v12 v13 v14 v15 v16 v17 V' := h.q (hV.mono (by simp)) (Fr.rfl _ _) h.dw
theorem DR.lo {d : St} {w : Nat → Int32} (h : DR d w) {k : Nat} (hk : k < 82) (h10 : k ≠ 10) (x : Int32) : DR d (upd w k x) := h.eq' (upd_n _ _ _ (by omega)) (fun j a b => upd_n _ _ _ (by omega))
theorem frV (W : St) (k : Nat) (x : Int32) : Fr [1, 17] W (su W 1 k x) := (Fr.rfl _ _).put (by simp) _ _
theorem qGuests {n : Nat} (hn : 5000 < n) (h : RI v0 v1 v3 v4 v5 v6 v7 v10 v12 v13 v14 v15 v16 v17 V) (out : Nat → Int64) (x1 x2 : Int32) : QM (m_L_guests n v0 v5 v7 v12 v16 v17 out x1 x2) (m_X12_guests n V x1 x2) (fun a => a.2.2.2.2) (fun a V' => RI v0 v1 v3 v4 a.1 v6 v7 v10 a.2.1 v13 v14 v15 a.2.2.1 a.2.2.2.1 V') := by
  have hR := h.hr
  unfold m_L_guests m_X11_guests m_X12_guests
  rw [nm_s, cHouse n hR.1 hR.2.1, refH (by rw [su01]; exact hR.1), su01]
  by_cases hx : ix x1 (2 * nP (V 1))
  · rw [if_pos hx, if_pos hx, bd_s, sm_l]
    obtain ⟨q, rfl, hq, hq2⟩ := of_ix hx
    have p5 := hR.1.p5
    rw [if_pos rfl, cNumber, refN]
    dsimp only
    by_cases h2 : 0 ≤ x2 ∧ x2 ≤ 9
    · obtain ⟨⟨p', H', D'⟩, W, er, eW, fW, W0, W1, pW⟩ := remU hn h.pr hR h.dr
      obtain ⟨j, hj, rfl⟩ := sm3 (k := 9) (by omega) h2
      have hB' := hR.2.1.u_guests hR.1 hq (J j)
      have hI' := hR.1.u_guests hq (J j) ⟨j, rfl, by omega, hj⟩
      obtain ⟨v', ev, hv⟩ := weighH hn hI' hB'
      rw [if_pos h2, if_pos h2, bd_s, sm_l, if_pos rfl, er, bd_s, if_pos (show ix (J q) 10 from J_ix (by omega) (by omega)), nm_s, if_pos (show ix (J q) 10 from J_ix (by omega) (by omega)), nm_s, J_nat hq2, ev, bd_s, bd_s, sm_l, eW, bd_s, of_1 n _ (by omega), bd_s, houseAt_1, bd_s, if_pos (show ix (J (33 + 2 * q)) 2080 from J_ix (by omega) (by omega)), nm_s, J_nat (by omega), W1, hR.2.1.guests hq]
      have e1 : su W 1 (33 + 2 * q) (J j) 1 = upd (V 1) (33 + 2 * q) (J j) := by rw [su_e, W1]
      try dsimp only
      exact QM.ret (by rw [su_n _ _ _ _ (by decide)]; exact W0) (updL0 out _) (h.ch fW pW (frV _ _ _) (by rw [e1]; exact hv) (by rw [e1]; exact h.lr.u (by omega) (by omega) _) (by rw [e1]; exact h.dr.lo (by omega) (by omega) _) (by rw [e1, upd_n _ _ _ (by omega)]) (by rw [e1, upd_n _ _ _ (by omega)]) W1)
    · rw [if_neg h2, if_neg h2, bd_s, sm_r, bd_s, sm_r, if_neg (show ¬ (0 : Nat) = 2 by decide), if_pos rfl, if_neg (show ¬ ((1 : Int32) = 0) by decide)]
      try dsimp only
      exact QM.thr (su00 _ _) (by decide) (h.sq (fr00 _ _ _))
  · rw [if_neg hx, if_neg hx, bd_s, sm_r, bd_s, sm_r, if_pos rfl, if_neg (show ¬ ((1 : Int32) = 0) by decide)]
    try dsimp only
    exact QM.thr (su00 _ _) (by decide) (h.sq (fr00 _ _ _))
theorem qProp {n : Nat} (hn : 5000 < n) (h : RI v0 v1 v3 v4 v5 v6 v7 v10 v12 v13 v14 v15 v16 v17 V) (out : Nat → Int64) (x1 : Int32) {x2 : Int32} (hb : isb x2) : ∃ c a r V', m_L_prop n v0 v5 v7 v12 v16 v17 out x1 x2 = some (c, a) ∧ m_X12_prop n V x1 x2 = some (r, V') ∧ V' 0 0 = c ∧ (c = 0 → a.2.2.2.2 0 = if r = 0 then 0 else 1) ∧ RI v0 v1 v3 v4 a.1 v6 v7 v10 a.2.1 v13 v14 v15 a.2.2.1 a.2.2.2.1 V' := by
  have hR := h.hr
  unfold m_L_prop m_X11_prop m_X12_prop
  rw [nm_s, cPlank n hR.1 hR.2.1, refP (by rw [su01]; exact hR.1), su01]
  by_cases hx : ix x1 (nP (V 1))
  · rw [if_pos hx, if_pos hx, bd_s, sm_l]
    obtain ⟨q, rfl, hq, hq2⟩ := of_ix hx
    have p5 := hR.1.p5
    have i5 : ix (J q) 5 := J_ix (by omega) (by omega)
    dsimp only
    obtain ⟨⟨p', H', D'⟩, W, er, eW, fW, W0, W1, pW⟩ := remU hn h.pr hR h.dr
    have hB' := hR.2.1.u_prop hR.1 hq x2
    have hI' := hR.1.u_prop hq x2 hb
    obtain ⟨v', ev, hv⟩ := weighH hn hI' hB'
    have e7 : (if x2 = 0 then some 0 else some 1 : Option Int32) = some x2 := by rcases hb with rfl | rfl <;> rfl
    have ebp : b2i (V 1 (14 + 4 * q) = 1) = V 1 (14 + 4 * q) := by
      rcases (hR.1.pl hq).2.2.1 with g | g
      · rw [g]; decide
      · rw [g]; decide
    rw [if_pos rfl, er, bd_s, if_pos i5, nm_s, if_pos i5, nm_s, J_nat hq2, zb_b hb, ev, bd_s, eW, bd_s, isPropped_s n _ (by omega), bd_s, plankAt_2, bd_s, e7, bd_s, if_pos (show ix (J (14 + 4 * q)) 2080 from J_ix (by omega) (by omega)), nm_s, J_nat (by omega), W1, hR.2.1.prop hq, ebp]
    have e1 : su W 1 (14 + 4 * q) x2 1 = upd (V 1) (14 + 4 * q) x2 := by rw [su_e, W1]
    have hRI := h.ch fW pW (frV W (14 + 4 * q) x2) (v5' := v') (v6' := v6) (v7' := v7) (by rw [e1]; exact hv) (by rw [e1]; exact h.lr.u (by omega) (by omega) _) (by rw [e1]; exact h.dr.lo (by omega) (by omega) _) (by rw [e1, upd_n _ _ _ (by omega)]) (by rw [e1, upd_n _ _ _ (by omega)]) W1
    by_cases g : V 1 (14 + 4 * q) = x2
    · rw [if_pos g, if_pos g, bd_s, sm_l]
      try dsimp only
      exact ⟨0, _, 0, _, rfl, rfl, by rw [su_n _ _ _ _ (by decide)]; exact W0, fun _ => updL0 out _, hRI⟩
    · rw [if_neg g, if_neg g, bd_s, sm_l]
      try dsimp only
      exact ⟨0, _, 1, _, rfl, rfl, by rw [su_n _ _ _ _ (by decide)]; exact W0, fun _ => updL0 out _, hRI⟩
  · rw [if_neg hx, if_neg hx, bd_s, sm_r, bd_s, sm_r, if_pos rfl, if_neg (show ¬ ((1 : Int32) = 0) by decide)]
    try dsimp only
    exact ⟨1, _, 0, _, rfl, rfl, su00 _ _, fun g => absurd g (by decide), h.sq (fr00 _ _ _)⟩
theorem qMend {n : Nat} (hn : 5000 < n) (h : RI v0 v1 v3 v4 v5 v6 v7 v10 v12 v13 v14 v15 v16 v17 V) (out : Nat → Int64) (x1 : Int32) : QM (m_L_mend n v0 v5 v7 v12 v16 v17 out x1) (m_X12_mend n V x1) (fun a => a.2.2.2.2) (fun a V' => RI v0 v1 v3 v4 a.1 v6 v7 v10 a.2.1 v13 v14 v15 a.2.2.1 a.2.2.2.1 V') := by
  have hR := h.hr
  unfold m_L_mend m_X11_mend m_X12_mend
  rw [nm_s, cPlank n hR.1 hR.2.1, refP (by rw [su01]; exact hR.1), su01]
  by_cases hx : ix x1 (nP (V 1))
  · rw [if_pos hx, if_pos hx, bd_s, sm_l]
    obtain ⟨q, rfl, hq, hq2⟩ := of_ix hx
    have p5 := hR.1.p5
    have i5 : ix (J q) 5 := J_ix (by omega) (by omega)
    dsimp only
    rw [if_pos rfl, if_pos i5, isBroken_s n _ (by omega), bd_s, nots, bd_s, thr_b, su01]
    rcases (hR.1.pl hq).2.2.2 with g | g
    · rw [if_pos (show v5 12 (J q).toNatClampNeg = 0 by rw [J_nat hq2, hR.2.1.broken hq]; exact g), bd_s, sm_r, if_pos (show ¬ V 1 (15 + 4 * q) = 1 by rw [g]; decide), bd_s]
      dsimp only
      rw [if_neg (show ¬ (4 : Nat) = 2 by decide), if_pos rfl, if_neg (show ¬ ((1 : Int32) = 0) by decide)]
      try dsimp only
      exact QM.thr (su00 _ _) (by decide) (h.sq (fr00 _ _ _))
    · obtain ⟨⟨p', H', D'⟩, W, er, eW, fW, W0, W1, pW⟩ := remU hn h.pr hR h.dr
      have hI1 := hR.1.u_broken hq 0 (.inl rfl)
      have hB1 := hR.2.1.u_broken hR.1 hq 0
      have eP : nP (upd (V 1) (15 + 4 * q) 0) = nP (V 1) := by unfold nP; rw [upd_n _ _ _ (by omega)]
      have hB' := hB1.u_age hI1 (q := q) (by rw [eP]; exact hq) 0
      have hI' := hI1.u_age (q := q) (by rw [eP]; exact hq) 0 ⟨0, rfl, by omega, by omega⟩
      obtain ⟨v', ev, hv⟩ := weighH hn hI' hB'
      rw [if_neg (show ¬ v5 12 (J q).toNatClampNeg = 0 by rw [J_nat hq2, hR.2.1.broken hq, g]; decide), if_neg (show ¬ ¬ V 1 (15 + 4 * q) = 1 from fun z => z g), bd_s]
      dsimp only
      rw [if_pos rfl, er, bd_s, if_pos i5, nm_s, if_pos i5, nm_s, if_pos i5, nm_s, J_nat hq2, show zb 0 = 0 from by decide, ev, bd_s, bd_s, sm_l, eW, bd_s, ofPlank_1 n _ (by omega), bd_s, plankAt_1, bd_s, if_pos (show ix (J (13 + 4 * q)) 2080 from J_ix (by omega) (by omega)), nm_s, plankAt_3, bd_s, if_pos (show ix (J (15 + 4 * q)) 2080 from J_ix (by omega) (by omega)), nm_s, J_nat (by omega), J_nat (by omega), W1, hR.2.1.age hq]
      have e1 : su (su W 1 (13 + 4 * q) 0) 1 (15 + 4 * q) 0 1 = upd (upd (V 1) (15 + 4 * q) 0) (13 + 4 * q) 0 := by
        rw [su_e, su_e, W1]
        funext k
        simp only [upd]
        by_cases k1 : k = 15 + 4 * q
        · by_cases k2 : k = 13 + 4 * q
          · omega
          · simp [k1]
        · simp [k1]
      try dsimp only
      exact QM.ret (by rw [su_n _ _ _ _ (by decide), su_n _ _ _ _ (by decide)]; exact W0) (updL0 out _) (h.ch fW pW ((frV _ _ _).put (by simp) _ _) (by rw [e1]; exact hv) (by rw [e1]; exact (h.lr.u (by omega) (by omega) _).u (by omega) (by omega) _) (by rw [e1]; exact (h.dr.lo (by omega) (by omega) _).lo (by omega) (by omega) _) (by rw [e1, upd_n _ _ _ (by omega), upd_n _ _ _ (by omega)]) (by rw [e1, upd_n _ _ _ (by omega), upd_n _ _ _ (by omega)]) W1)
  · rw [if_neg hx, if_neg hx, bd_s, sm_r, bd_s, sm_r, if_pos rfl, if_neg (show ¬ ((1 : Int32) = 0) by decide)]
    try dsimp only
    exact QM.thr (su00 _ _) (by decide) (h.sq (fr00 _ _ _))
end
end PCALL6
