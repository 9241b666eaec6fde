section PCALL7
theorem HR.tell {v : St} {w : Nat → Int32} (hR : HR v w) (t f o c : Int32) : HR v (tellW w t f o c) := by
  have h5 := hR.1.p5
  refine ⟨tell_I hR.1 _ _ _ _, tell_B hR.1 hR.2.1 _ _ _ _, HW.ag hR.1.t10 hR.2.2 (fun p hp => ?_) (by unfold nP; rw [tellW_lo _ _ _ _ _ (by omega) (by omega)])⟩
  exact ⟨fun k a b => tellW_lo _ _ _ _ _ (by omega) (by omega), fun k a b => tellW_lo _ _ _ _ _ (by omega) (by omega), fun k a b => tellW_hi _ _ _ _ _ (by omega), fun k a => tellW_lo _ _ _ _ _ (by omega) (by omega), tellW_lo _ _ _ _ _ (by omega) (by omega), tellW_lo _ _ _ _ _ (by omega) (by omega)⟩
theorem HR.purse {v : St} {w : Nat → Int32} (hR : HR v w) {q : Nat} (hq : q < 2 * nP w) (x : Int32) : HR (su v 13 q x) (upd w (32 + 2 * q) x) := by
  have h5 := hR.1.p5
  refine ⟨hR.1.u_purse hq x, hR.2.1.u_purse hR.1 hq x, HW.ag hR.1.t10 (hR.2.2.fr ((Fr.rfl [13] v).put (by simp) _ _) (by simp) (by simp)) (fun p hp => ?_) (by unfold nP; rw [upd_n _ _ _ (by omega)])⟩
  exact ⟨fun k a b => upd_n _ _ _ (by omega), fun k a b => upd_n _ _ _ (by omega), fun k a b => upd_n _ _ _ (by omega), fun k a => upd_n _ _ _ (by omega), upd_n _ _ _ (by omega), upd_n _ _ _ (by omega)⟩
theorem both_b {α : Type} {c d : Prop} [Decidable c] [Decidable d] (K : Int32 → Option α) : bd (jn (fun (_ : Unit) => some (1 : Int32)) (fun (K13 : Unit → Option (Int32)) => (if b2i (¬ c) = 0 then bd (some (b2i (¬ d))) (fun t14 => (if t14 = 0 then some 0 else K13 ())) else K13 ()))) K = K (b2i (¬ (c ∧ d))) := by
  simp only [jn_s, bd_s]
  by_cases a1 : c <;> by_cases a2 : d <;> simp [a1, a2, b2i, bd_s]
section
variable {v0 v1 v3 v4 v5 v6 v7 v10 v12 v13 v14 v15 : St} {v16 v17 : Nat → St} {V : St}
theorem qCarry {n : Nat} (hn : 5000 < n) (h : RI v0 v1 v3 v4 v5 v6 v7 v10 v12 v13 v14 v15 v16 v17 V) (out : Nat → Int64) (x1 x2 : Int32) : QM (m_L_carry n v0 v5 v7 v12 v16 v17 out x1 x2) (m_X12_carry n V x1 x2) (fun a => a.2.2.2.2.2) (fun a V' => RI v0 v1 v3 v4 a.1 v6 a.2.1 v10 a.2.2.1 v13 v14 v15 a.2.2.2.1 a.2.2.2.2.1 V') := by
  have hR := h.hr
  have hu : WInv ((su V 0 0 0) 1) := by rw [su01]; exact hR.1
  unfold m_L_carry m_X11_carry m_X12_carry
  rw [nm_s (su V 0 0 0), cThing n hR.1 hR.2.1, cHouse n hR.1 hR.2.1, noThing_s n _ _ hu.t hu.t10, bd_s, noHouse_s n _ _ hu.p hu.p5, both_b, thr_b, su01]
  by_cases hx : ix x1 (nT (V 1))
  · rw [if_pos hx, bd_s, sm_l]
    by_cases hy : ix x2 (2 * nP (V 1))
    · rw [if_pos hy, bd_s, sm_l, if_neg (show ¬ ¬ (ix x1 (nT (V 1)) ∧ ix x2 (2 * nP (V 1))) from fun g => g ⟨hx, hy⟩), bd_s]
      obtain ⟨t, rfl, ht, ht2⟩ := of_ix hx
      obtain ⟨o, rfl, ho, ho2⟩ := of_ix hy
      have p5 := hR.1.p5
      have t10 := hR.1.t10
      have i10 : ix (J t) 10 := J_ix (by omega) (by omega)
      dsimp only
      rw [if_pos rfl, if_pos i10, nm_s, isGone_s n _ (by omega), bd_s, thr_b, su01]
      by_cases g : V 1 (54 + 3 * t) = -1
      · rw [if_pos (show v5 17 (J t).toNatClampNeg = -1 by rw [J_nat ht2, hR.2.1.home ht]; exact g), bd_s, sm_r, if_pos g, bd_s]
        dsimp only
        rw [if_neg (show ¬ (4 : Nat) = 2 by decide), if_pos rfl, if_neg (show ¬ ((1 : Int32) = 0) by decide)]
        try dsimp only
        exact QM.thr (su00 _ _) (by decide) (h.sq (fr00 _ _ _))
      · obtain ⟨⟨p', H', D'⟩, W, er, eW, fW, W0, W1, pW⟩ := remU hn h.pr hR h.dr
        have hB' := hR.2.1.u_home hR.1 ht (J o)
        have hI' := hR.1.u_home ht (J o) (.inr ⟨o, rfl, ho⟩)
        obtain ⟨v', ev, hv⟩ := weighH hn hI' hB'
        obtain ⟨d', ed, -, hd⟩ := addRow_ok (n := n) h.dr.dw (v5 7 0) (J t) (V 1 (54 + 3 * t)) (J o)
        have hd' := hd (upd (V 1) (54 + 3 * t) (J o)) (h.dr.lo (by omega) (by omega) _) (by rw [upd_n _ _ _ (by omega)]; exact hR.2.1.week)
        rw [if_neg (J_ne_neg ho2)] at hd'
        rw [if_neg (show ¬ v5 17 (J t).toNatClampNeg = -1 by rw [J_nat ht2, hR.2.1.home ht]; exact g), if_neg g, bd_s]
        dsimp only
        rw [if_pos rfl]
        simp only [if_pos i10]
        rw [J_nat ht2, hR.2.1.home ht, er, bd_s, ed, bd_s, nm_s, ev, bd_s, bd_s, sm_l, eW, bd_s, ofThing_2 n _ (by omega), bd_s, thingAt_2, bd_s, if_pos (show ix (J (54 + 3 * t)) 2080 from J_ix (by omega) (by omega)), nm_s, J_nat (by omega), tellsR hn, bd_s, W1]
        have e1 : ∀ g : Nat → Int32, sA (su W 1 (54 + 3 * t) (J o)) 1 g 1 = g := fun g => sA_e _ _ _
        have e2 : su W 1 (54 + 3 * t) (J o) 1 = upd (V 1) (54 + 3 * t) (J o) := by rw [su_e, W1]
        rw [e2]
        try dsimp only
        exact QM.ret (by rw [sA_n _ _ _ (by decide), su_n _ _ _ _ (by decide)]; exact W0) (updL0 out _) (h.ch fW pW ((frV _ _ _).row (by simp) _) (by rw [e1]; exact hv.tell _ _ _ _) (by rw [e1]; exact (h.lr.u (by omega) (by omega) _).eq (fun k a b => tellW_hi _ _ _ _ _ (by omega)) (tellW_lo _ _ _ _ _ (by omega) (by omega))) (by rw [e1]; exact hd') (by rw [e1, tellW_lo _ _ _ _ _ (by omega) (by omega), upd_n _ _ _ (by omega)]) (by rw [e1, tellW_lo _ _ _ _ _ (by omega) (by omega), upd_n _ _ _ (by omega)]) W1)
    · rw [if_neg hy, bd_s, sm_r, bd_s, sm_r, if_pos (show ¬ (ix x1 (nT (V 1)) ∧ ix x2 (2 * nP (V 1))) from fun g => hy g.2), bd_s, if_pos rfl, if_neg (show ¬ ((1 : Int32) = 0) by decide)]
      try dsimp only
      exact QM.thr (su00 _ _) (by decide) (h.sq (fr00 _ _ _))
  · rw [if_neg hx, bd_s, sm_r, bd_s, sm_r, if_pos (show ¬ (ix x1 (nT (V 1)) ∧ ix x2 (2 * nP (V 1))) from fun g => hx g.1), bd_s, if_pos rfl, if_neg (show ¬ ((1 : Int32) = 0) by decide)]
    try dsimp only
    exact QM.thr (su00 _ _) (by decide) (h.sq (fr00 _ _ _))
theorem qGive {n : Nat} (hn : 5000 < n) (h : RI v0 v1 v3 v4 v5 v6 v7 v10 v12 v13 v14 v15 v16 v17 V) (out : Nat → Int64) (x1 x2 x3 : Int32) : QM (m_L_give n v0 v5 v7 v12 v16 v17 out x1 x2 x3) (m_X12_give n V x1 x2 x3) (fun a => a.2.2.2.2) (fun a V' => RI v0 v1 v3 v4 a.1 v6 v7 v10 a.2.1 v13 v14 v15 a.2.2.1 a.2.2.2.1 V') := by
  have hR := h.hr
  have hu : WInv ((su V 0 0 0) 1) := by rw [su01]; exact hR.1
  unfold m_L_give m_X11_give m_X12_give
  rw [nm_s (su V 0 0 0), cHouse n hR.1 hR.2.1, cHouse n hR.1 hR.2.1, noHouse_s n _ _ hu.p hu.p5, bd_s, noHouse_s n _ _ hu.p hu.p5, both_b, thr_b, su01]
  by_cases hx : ix x1 (2 * nP (V 1))
  · rw [if_pos hx, bd_s, sm_l]
    by_cases hy : ix x2 (2 * nP (V 1))
    · rw [if_pos hy, bd_s, sm_l, if_neg (show ¬ ¬ (ix x1 (2 * nP (V 1)) ∧ ix x2 (2 * nP (V 1))) from fun g => g ⟨hx, hy⟩), bd_s]
      obtain ⟨a, rfl, ha, ha2⟩ := of_ix hx
      obtain ⟨b, rfl, hb, hb2⟩ := of_ix hy
      have p5 := hR.1.p5
      have ia : ix (J a) 10 := J_ix (by omega) (by omega)
      have ib : ix (J b) 10 := J_ix (by omega) (by omega)
      dsimp only
      rw [if_pos rfl]
      simp only [jn_s]
      rw [of_0 n _ (show a < 10 by omega), bd_s, in_s, bd_s, su01]
      by_cases q : J a = J b
      · rw [if_pos q, if_pos q, bd_s, bd_s, sm_r]
        dsimp only
        rw [show m_X12_throwsIf n (su V 0 0 0) 1 2 = some (1, su (su V 0 0 0) 0 0 2) from rfl, bd_s, if_neg (show ¬ (0 : Nat) = 2 by decide), if_pos rfl, if_neg (show ¬ ((1 : Int32) = 0) by decide)]
        try dsimp only
        exact QM.thr (su00 _ _) (by decide) (h.sq (fr00 _ _ _))
      · rw [if_neg q, if_neg q]
        simp only [if_pos ia, if_pos ib, cNumber, J_nat ha2, J_nat hb2, hR.2.1.purse ha]
        by_cases g : 1 ≤ x3 ∧ x3 ≤ V 1 (32 + 2 * a)
        · obtain ⟨⟨p', H', D'⟩, W, er, eW, fW, W0, W1, pW⟩ := remU hn h.pr hR h.dr
          rw [if_pos g, if_neg (show ¬ b2i (1 ≤ x3 ∧ x3 ≤ V 1 (32 + 2 * a)) = 0 by rw [show b2i (1 ≤ x3 ∧ x3 ≤ V 1 (32 + 2 * a)) = 1 from if_pos g]; decide), bd_s, bd_s, sm_l, show m_X12_throwsIf n (su V 0 0 0) 0 2 = some (0, su V 0 0 0) from rfl, bd_s]
          dsimp only
          have ne : b ≠ a := fun z => q (by rw [z])
          have hp1 := hR.purse ha (V 1 (32 + 2 * a) - x3)
          have eP : nP (upd (V 1) (32 + 2 * a) (V 1 (32 + 2 * a) - x3)) = nP (V 1) := by unfold nP; rw [upd_n _ _ _ (by omega)]
          have eb : (su v5 13 a (V 1 (32 + 2 * a) - x3)) 13 b = V 1 (32 + 2 * b) := by rw [su_e, upd_n _ _ _ ne, hR.2.1.purse hb]
          have eWa : su W 1 (32 + 2 * a) (V 1 (32 + 2 * a) - x3) 1 = upd (V 1) (32 + 2 * a) (V 1 (32 + 2 * a) - x3) := by rw [su_e, W1]
          have eWb : upd (V 1) (32 + 2 * a) (V 1 (32 + 2 * a) - x3) (32 + 2 * b) = V 1 (32 + 2 * b) := upd_n _ _ _ (by omega)
          rw [if_pos rfl, er, bd_s, nm_s, nm_s, eb, bd_s, sm_l, eW, bd_s, houseAt_0, bd_s, if_pos (show ix (J (32 + 2 * a)) 2080 from J_ix (by omega) (by omega)), if_pos (show ix (J (32 + 2 * a)) 2080 from J_ix (by omega) (by omega)), nm_s, J_nat (by omega), W1, houseAt_0, bd_s, of_0 n _ (show b < 10 by omega), bd_s, if_pos (show ix (J (32 + 2 * b)) 2080 from J_ix (by omega) (by omega)), nm_s, J_nat (by omega), of_0 n _ (show b < 10 by omega), bd_s, eWa, eWb]
          have hp2 := hp1.purse (q := b) (by rw [eP]; exact hb) (x_min 9999 (V 1 (32 + 2 * b) + x3))
          have e1 : su (su W 1 (32 + 2 * a) (V 1 (32 + 2 * a) - x3)) 1 (32 + 2 * b) (x_min 9999 (V 1 (32 + 2 * b) + x3)) 1 = upd (upd (V 1) (32 + 2 * a) (V 1 (32 + 2 * a) - x3)) (32 + 2 * b) (x_min 9999 (V 1 (32 + 2 * b) + x3)) := by rw [su_e, eWa]
          have e2 : su (su W 1 (32 + 2 * a) (V 1 (32 + 2 * a) - x3)) 1 (32 + 2 * b) (x_min 9999 (V 1 (32 + 2 * b) + x3)) 1 (32 + 2 * b) = x_min 9999 (V 1 (32 + 2 * b) + x3) := by rw [e1, upd_e]
          have e3 : su (su v5 13 a (V 1 (32 + 2 * a) - x3)) 13 b (x_min 9999 (V 1 (32 + 2 * b) + x3)) 13 b = x_min 9999 (V 1 (32 + 2 * b) + x3) := by rw [su_e, upd_e]
          rw [e2, e3]
          try dsimp only
          exact QM.ret (by rw [su_n _ _ _ _ (by decide), su_n _ _ _ _ (by decide)]; exact W0) (updL0 out _) (h.ch fW pW ((frV _ _ _).put (by simp) _ _) (by rw [e1]; exact hp2) (by rw [e1]; exact (h.lr.u (by omega) (by omega) _).u (by omega) (by omega) _) (by rw [e1]; exact (h.dr.lo (by omega) (by omega) _).lo (by omega) (by omega) _) (by rw [e1, upd_n _ _ _ (by omega), upd_n _ _ _ (by omega)]) (by rw [e1, upd_n _ _ _ (by omega), upd_n _ _ _ (by omega)]) W1)
        · rw [if_neg g, if_pos (show b2i (1 ≤ x3 ∧ x3 ≤ V 1 (32 + 2 * a)) = 0 from if_neg g), bd_s, bd_s, sm_r, bd_s, sm_r, show m_X12_throwsIf n (su V 0 0 0) 1 2 = some (1, su (su V 0 0 0) 0 0 2) from rfl, bd_s, if_neg (show ¬ (0 : Nat) = 2 by decide), if_pos rfl, if_neg (show ¬ ((1 : Int32) = 0) by decide)]
          try dsimp only
          exact QM.thr (su00 _ _) (by decide) (h.sq (fr00 _ _ _))
    · rw [if_neg hy, bd_s, sm_r, bd_s, sm_r, if_pos (show ¬ (ix x1 (2 * nP (V 1)) ∧ ix x2 (2 * nP (V 1))) from fun g => hy g.2), bd_s, if_pos rfl, if_neg (show ¬ ((1 : Int32) = 0) by decide)]
      try dsimp only
      exact QM.thr (su00 _ _) (by decide) (h.sq (fr00 _ _ _))
  · rw [if_neg hx, bd_s, sm_r, bd_s, sm_r, if_pos (show ¬ (ix x1 (2 * nP (V 1)) ∧ ix x2 (2 * nP (V 1))) from fun g => hx g.1), bd_s, if_pos rfl, if_neg (show ¬ ((1 : Int32) = 0) by decide)]
    try dsimp only
    exact QM.thr (su00 _ _) (by decide) (h.sq (fr00 _ _ _))
theorem qWeeks {n : Nat} (hn : 5000 < n) (h : RI v0 v1 v3 v4 v5 v6 v7 v10 v12 v13 v14 v15 v16 v17 V) (out : Nat → Int64) (x1 : Int32) : QM (m_L_weeks n v0 v5 v6 v7 v12 v16 v17 out x1) (m_X12_weeks n V x1) (fun a => a.2.2.2.2.2.2) (fun a V' => RI v0 v1 v3 v4 a.1 a.2.1 a.2.2.1 v10 a.2.2.2.1 v13 v14 v15 a.2.2.2.2.1 a.2.2.2.2.2.1 V') := by
  have hR := h.hr
  have hI := hR.1
  unfold m_L_weeks m_X11_weeks m_X12_weeks
  rw [nm_s, cNumber, refN]
  by_cases h2 : 1 ≤ x1 ∧ x1 ≤ 60
  · rw [if_pos h2, if_pos h2, bd_s, sm_l, if_pos rfl]
    obtain ⟨m, rfl, -, hm⟩ := J_rng2 (a := 1) (b := 60) h2.1 h2.2 (by omega) (by omega)
    obtain ⟨⟨p', H', D'⟩, W, er, eW, fW, W0, W1, pW⟩ := remU hn h.pr hR h.dr
    dsimp only
    rw [er, bd_s, eW, bd_s, goneR hn (by rw [W1]; exact hI), bd_s, bc_s, bd_s, W1, gn_bc hI]
    dsimp only
    obtain ⟨_, ea, v', L', d', rfl, hv, fL, -, hd⟩ := goX hn hR h.lr h.dr.dw hm (fun y => (Sum.inl (y.1, y.2.1, y.2.2.1, y.2.2.2, p', H', D') : (Int32 × St × St × St × St × (Nat → St) × (Nat → St)) ⊕ (Nat × St × St × St × St × (Nat → St) × (Nat → St))))
    obtain ⟨V', eb, e1, fb⟩ := goR hn W (by rw [W1]; exact hI) (by rw [W1]; exact h.lr.o) hm
    rw [W1] at e1
    obtain ⟨o1, o2, o3⟩ := one_it hI h.lr.o m
    rw [ea, bd_s, sm_l, eb, bd_s, goneR hn (by rw [e1]; exact o1), bd_s, bc_s, bd_s, e1, gn_bc o1]
    try dsimp only
    exact QM.ret (by rw [fb 0 (by simp)]; exact W0) (updL0 out _) (h.ch fW pW fb (by rw [e1]; exact hv) (by rw [e1]; exact (one_LR hI h.lr m).fr fL) (by rw [e1]; exact hd h.dr) (by rw [e1, o3 2 (.inr (.inr rfl))]) (by rw [e1, o3 3 (.inr (.inl rfl))]) W1)
  · rw [if_neg h2, if_neg h2, bd_s, sm_r, bd_s, sm_r, if_pos rfl, if_neg (show ¬ ((1 : Int32) = 0) by decide)]
    try dsimp only
    exact QM.thr (su00 _ _) (by decide) (h.sq (fr00 _ _ _))
end
end PCALL7
