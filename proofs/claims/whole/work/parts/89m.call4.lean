section PCALL4
theorem upd_id (w : Nat → Int32) (k : Nat) : upd w k (w k) = w := by
  funext j
  by_cases h : j = k
  · rw [h, upd_e]
  · rw [upd_n _ _ _ h]
theorem qTrial {n : Nat} (hn : 5000 < n) (v0 s : St) {v V L D : St} (hR : HR v (V 1)) (hL : LR L (V 1)) (hD : DW D) (out : Nat → Int64) (x1 x2 : Int32) : QC SQ V (m_L_trial n v0 v L s D out x1 x2) (m_X12_trial n V x1 x2) (fun a => a.2.2.2) (fun a => Fr [6] L a.1 ∧ DW a.2.2.1) := by
  unfold m_L_trial m_X11_trial m_X12_trial
  rw [nm_s, cNumber, refN]
  by_cases h2 : 0 ≤ x1 ∧ x1 ≤ 60
  · rw [if_pos h2, if_pos h2, bd_s, sm_l, if_pos rfl]
    obtain ⟨m, hm, rfl⟩ := sm3 (k := 60) (by omega) h2
    have hI := hR.1
    obtain ⟨⟨L', s', D'⟩, ea, fa, ha, hd⟩ := tryX hn hR hL hD (v0 := v0) (s := s) (v 8 0) hm
    dsimp only at fa ha hd
    rw [hR.2.1.seed, upd_id] at ha
    dsimp only
    rw [keepR hn, bd_s]
    have k1 : (sA (su V 0 0 0) 4 (cpN (su V 0 0 0 1) (su V 0 0 0 4) 382)) 1 = V 1 := by rw [sA_n _ _ _ (by decide), su01]
    obtain ⟨V', eb, e1, fb⟩ := goR hn (sA (su V 0 0 0) 4 (cpN (su V 0 0 0 1) (su V 0 0 0 4) 382)) (by rw [k1]; exact hI) (by rw [k1]; exact hL.o) hm
    rw [k1] at e1
    obtain ⟨o1, o2, o3⟩ := one_it hI hL.o m
    have hu : WInv (V' 1) := by rw [e1]; exact o1
    have kb := keep_back fb (fun k hk => by rw [e1, o3 k (.inl hk), su01])
    have f0 : V' 0 0 = 0 := by rw [fb 0 (by simp), sA_n _ _ _ (by decide)]; exact su00 _ _
    rw [ea, bd_s, eb, bd_s]
    dsimp only
    rw [XgoneThings hn o1 ha.2.1, XbrokenPlanks hn o1 ha.2.1, bd_s, bd_s, bc_s, bd_s, goneR hn hu, brokenR hn hu, bd_s, bd_s, bc_s, bd_s, e1]
    by_cases q : x2 = 0
    · rw [if_pos q, if_pos q, bd_s, sm_l, bd_s, backR hn, bd_s]
      try dsimp only
      exact QC.ret (by rw [sA_n _ _ _ (by decide)]; exact f0) (updL0 out _) ((frQ (fr0 _ _)).tr (frD kb)) ⟨fa, hd⟩
    · rw [if_neg q, if_neg q, bd_s, sm_l, bd_s, backR hn, bd_s]
      try dsimp only
      exact QC.ret (by rw [sA_n _ _ _ (by decide)]; exact f0) (updL0 out _) ((frQ (fr0 _ _)).tr (frD kb)) ⟨fa, hd⟩
  · rw [if_neg h2, if_neg h2, bd_s, sm_r, bd_s, sm_r, if_pos rfl, if_neg (show ¬ ((1 : Int32) = 0) by decide)]
    try dsimp only
    exact QC.thr (su00 _ _) (by decide) (frQ (fr00 _ _ _)) ⟨Fr.rfl _ _, hD⟩
theorem qSpan {n : Nat} (hn : 5000 < n) (v0 s : St) {v V L D : St} (hR : HR v (V 1)) (hL : LR L (V 1)) (hD : DW D) (out : Nat → Int64) (x1 x2 : Int32) : QC SQ V (m_L_span n v0 v L s D out x1 x2) (m_X12_span n V x1 x2) (fun a => a.2.2.2) (fun a => Fr [6] L a.1 ∧ DW a.2.2.1) := by
  unfold m_L_span m_X11_span m_X12_span
  rw [nm_s, cNumber, refN]
  by_cases h2 : 0 ≤ x1 ∧ x1 ≤ 60
  · rw [if_pos h2, if_pos h2, bd_s, sm_l, if_pos rfl]
    obtain ⟨m, hm, rfl⟩ := sm3 (k := 60) (by omega) h2
    obtain ⟨⟨a, b, L', s', D'⟩, ea, r1, r2, fa, hd⟩ := spanX hn hR hL hD (v0 := v0) (s := s) hm
    obtain ⟨⟨c, V'⟩, eb, rb, fb⟩ := spanR hn (su V 0 0 0) (by rw [su01]; exact hR.1) (by rw [su01]; exact hL.o) hm x2
    dsimp only at r1 r2 fa hd rb fb
    rw [su01] at rb
    unfold spR at rb
    rw [if_neg (by omega)] at rb
    dsimp only
    rw [ea, bd_s, eb]
    dsimp only
    by_cases q : x2 = 0
    · rw [if_pos q] at rb
      rw [if_pos q, bd_s, sm_l, rb, r1]
      try dsimp only
      exact QC.ret (by rw [fb 0 (by simp)]; exact su00 _ _) (updL0 out _) ((frQ (fr0 _ _)).tr (frD fb)) ⟨fa, hd⟩
    · rw [if_neg q] at rb
      rw [if_neg q, bd_s, sm_l, rb, r2]
      try dsimp only
      exact QC.ret (by rw [fb 0 (by simp)]; exact su00 _ _) (updL0 out _) ((frQ (fr0 _ _)).tr (frD fb)) ⟨fa, hd⟩
  · rw [if_neg h2, if_neg h2, bd_s, sm_r, bd_s, sm_r, if_pos rfl, if_neg (show ¬ ((1 : Int32) = 0) by decide)]
    try dsimp only
    exact QC.thr (su00 _ _) (by decide) (frQ (fr00 _ _ _)) ⟨Fr.rfl _ _, hD⟩
theorem qLed {n : Nat} (hn : 5000 < n) (v0 : St) {v V D : St} (hR : HR v (V 1)) (hD : DR D (V 1)) (out : Nat → Int64) (x1 x2 : Int32) : QC SQ V (m_L_led n v0 v D out x1 x2) (m_X12_led n V x1 x2) (fun a => a) (fun _ => True) := by
  unfold m_L_led m_X11_led m_X12_led
  rw [nm_s, cThing n hR.1 hR.2.1, refT (by rw [su01]; exact hR.1), su01]
  by_cases hx : ix x1 (nT (V 1))
  · rw [if_pos hx, if_pos hx, bd_s, sm_l]
    obtain ⟨r, hr, d0, w0, h4⟩ := hD
    have hl := ledR hn (su V 0 0 0) hr (by rw [su01]; exact w0) x1
    dsimp only
    rw [if_pos rfl, rowsX hn hr d0 h4, weekOfX hn hr d0 h4, nm_s, hl, bd_s, bd_s, bd_s]
    dsimp only
    by_cases q : x2 = 0
    · rw [if_pos q, if_pos q, bd_s, sm_l, su01]
      try dsimp only
      exact QC.ret (su00 _ _) (updL0 out _) (frQ (fr0 _ _)) trivial
    · rw [if_neg q, if_neg q, bd_s, sm_l, su01]
      try dsimp only
      exact QC.ret (su00 _ _) (updL0 out _) (frQ (fr0 _ _)) trivial
  · rw [if_neg hx, if_neg hx, bd_s, sm_r, bd_s, sm_r, if_pos rfl, if_neg (show ¬ ((1 : Int32) = 0) by decide)]
    try dsimp only
    exact QC.thr (su00 _ _) (by decide) (frQ (fr00 _ _ _)) trivial
theorem qLog {n : Nat} (v0 : St) {V D : St} (hD : DR D (V 1)) (out : Nat → Int64) (x1 x2 : Int32) : QC SQ V (m_L_log n v0 D out x1 x2) (m_X12_log n V x1 x2) (fun a => a) (fun _ => True) := by
  unfold m_L_log m_X11_log m_X12_log
  obtain ⟨r, hr, d0, w0, h4⟩ := hD
  rw [nm_s, chk (b := 5) (k := 5) rfl (by omega), refN]
  have e5 : (0 ≤ x2 ∧ x2 ≤ 4) ↔ ix x2 5 := by rw [← rng_ix x2 (P := 5) (by omega), show J 5 - 1 = 4 from rfl]
  by_cases h2 : ix x2 5
  · rw [if_pos h2, if_pos (e5.mpr h2), if_pos rfl]
    obtain ⟨c, rfl, hc, -⟩ := of_ix h2
    dsimp only
    rw [in_s, bd_s, su01, w0]
    have er := rng_ix x1 (P := r) (by omega)
    by_cases h3 : ix x1 r
    · obtain ⟨a, rfl, ha, -⟩ := of_ix h3
      rw [cellX n hr d0 h4 ha hc, bd_s, bd_s, sm_l, if_neg (show ¬ b2i (0 ≤ J a ∧ J a ≤ J r - 1) = 0 by rw [show b2i (0 ≤ J a ∧ J a ≤ J r - 1) = 1 from if_pos (er.mpr h3)]; decide), ofLogR n _ (by omega) hc, bd_s, su01]
      try dsimp only
      exact QC.ret (su00 _ _) (updL0 out _) (frQ (fr0 _ _)) trivial
    · have ec : m_X1_cell n D x1 (J c) = some (-2) := by
        unfold m_X1_cell
        by_cases g1 : x1 < 0
        · rw [if_pos g1]
        · rw [if_neg g1, if_pos]
          rw [d0]
          by_cases g2 : x1 < J r
          · exact absurd ((lt_J (by omega)).mp ⟨g1, g2⟩) h3
          · grind
      rw [ec, bd_s, bd_s, sm_l, if_pos (show b2i (0 ≤ x1 ∧ x1 ≤ J r - 1) = 0 from if_neg (fun g => h3 (er.mp g)))]
      try dsimp only
      exact QC.ret (su00 _ _) (updL0 out _) (frQ (fr0 _ _)) trivial
  · rw [if_neg h2, if_neg (fun g => h2 (e5.mp g)), bd_s, sm_r, if_pos rfl, if_neg (show ¬ ((1 : Int32) = 0) by decide)]
    try dsimp only
    exact QC.thr (su00 _ _) (by decide) (frQ (fr00 _ _ _)) trivial
theorem qMatch {n : Nat} (hn : 5000 < n) (v0 : St) {v V : St} (hR : HR v (V 1)) (out : Nat → Int64) (x1 x2 : Int32) : QC SQ V (m_L_match n v0 v out x1 x2) (m_X12_match n V x1 x2) (fun a => a) (fun _ => True) := by
  have hI := hR.1
  have p5 := hI.p5
  have hu : WInv ((su V 0 0 0) 1) := by rw [su01]; exact hI
  unfold m_L_match m_X11_match m_X12_match
  simp only [jn_s]
  rw [nm_s, cHouse n hI hR.2.1, refH hu, su01]
  obtain ⟨S, eS, hS, hb⟩ := mask_J p5 x1
  have hpl := popN_le S 10
  have hrem : ∀ k : Nat, k < 11 → ((x_rem (J k) 2 = 0) ↔ k % 2 = 0) ∧ ((x_rem (J k) 2 = 1) ↔ ¬ k % 2 = 0) := by decide +kernel
  obtain ⟨rm0, rm1⟩ := hrem (popN S 10) (by omega)
  have j8 : (J (popN S 10) ≤ 8) ↔ popN S 10 ≤ 8 := by rw [show (8 : Int32) = J 8 from rfl, J_le (by omega) (by omega)]
  have hh : m_X12_houses n (su V 0 0 0) = some (J (2 * nP (V 1))) := by rw [houses_s n _ (by rw [su01]; exact hI.p), su01]
  dsimp only
  rw [Xhouses hI hR.2.1, bd_s, nm_s, eS, bc_s, bd_s, bcF_J hS, hh, bd_s, nm_s, eS, bc_s, bd_s, bcF_J hS, bd_s]
  -- the core
  have core : ∀ (hx : x2 = -1 ∨ ∃ k, x2 = J k ∧ k < 2147483648), ∃ r V', (if x_rem (J (popN S 10)) 2 = 0 then (if J (popN S 10) ≤ 8 then (if x2 = (-1) then bd (m_X7_howMuch n (fun _ => v 18) (J S)) (fun t6 => some (Sum.inl t6)) else bd (m_X7_partnerOf n (fun _ => v 18) (J S) x2) (fun t5 => some (Sum.inl t5))) else some (Sum.inl (-1))) else some (Sum.inl (-1)) : Option (Int32 ⊕ Nat)) = some (Sum.inl r) ∧ (if x_rem (J (popN S 10)) 2 = 1 then some ((-1 : Int32), su V 0 0 0) else (if J (popN S 10) ≤ 8 then bd (m_X12_laysDiffer n (su V 0 0 0) (J S)) (fun t7 => (if x2 = (-1) then (if ix (J S) 1024 then some ((t7 18 (J S).toNatClampNeg), t7) else none) else lp (fun (rc8 : Int32 → Option (Int32 × St)) (x8l : Int32) => (if x8l = 0 then some ((-1), t7) else bd (m_X12_leastOf n x8l) (fun t9 => bd (m_X12_partnerIn n t7 x8l) (fun t10 => (if x2 = t9 then some (t10, t7) else (if x2 = t10 then some (t9, t7) else nm (x8l &&& (((x_shl 1 t9) ^^^ (-1)) &&& ((x_shl 1 t10) ^^^ (-1)))) (fun x3_11 => rc8 x3_11))))))) n (J S))) else some ((-1), su V 0 0 0))) = some (r, V') ∧ Fr [18] (su V 0 0 0) V' := by
    intro hx
    by_cases a1 : popN S 10 % 2 = 0
    · rw [if_pos (rm0.mpr a1), if_neg (fun g => rm1.mp g a1)]
      by_cases a2 : popN S 10 ≤ 8
      · rw [if_pos (j8.mpr a2), if_pos (j8.mpr a2)]
        obtain ⟨W, eW, fW, tW⟩ := laysR hn (su V 0 0 0) hu hS (by rw [su01]; exact hb) a2
        rw [su01] at tW
        have hE : EV2 (nP (V 1)) (popN S 10 / 2) S := ⟨hS, by omega, hb⟩
        have W1 : W 1 = V 1 := by rw [fW 1 (by simp), su01]
        rw [eW, bd_s]
        have hss : (J S &&& J S) = J S := by simp
        by_cases q : x2 = -1
        · rw [if_pos q, if_pos q]
          have h1 : m_X7_howMuch n (fun _ => v 18) (J S) = some (J (Mf (V 1) (popN S 10 / 2) S)) := by
            unfold m_X7_howMuch m_X7_leastSum
            have := leastX hn hI (T := fun _ => v 18) (fun h hh => (hR.2.2 h hh).1) (popN S 10 / 2) S 64 0 0 hE (by omega) (by omega)
            rw [show G_X7_leastSum n 64 0 (fun _ => v 18) (J S) 0 = some (J (Mf (V 1) (popN S 10 / 2) S)) from this, bd_s]
          rw [h1, bd_s, if_pos (J_ix hS (by omega)), J_nat (by omega), tW _ S (by omega) hE hss]
          exact ⟨_, W, rfl, rfl, fW⟩
        · rw [if_neg q, if_neg q]
          have h1 : m_X7_partnerOf n (fun _ => v 18) (J S) x2 = some (paS (V 1) (popN S 10 / 2) S x2) := by
            unfold m_X7_partnerOf
            simp only [jn_s]
            exact partnerX hn hI (T := fun _ => v 18) (fun h hh => (hR.2.2 h hh).1) x2 (popN S 10 / 2) S 0 n hE (by omega) (by omega)
          have h2 := partnerR hn (u := W) (by rw [W1]; exact hI) (S := S) (by rw [W1]; exact tW) hS x2 (popN S 10 / 2) S n (by rw [W1]; exact hE) (by omega) (by omega) (Nat.le_refl _) hss
          rw [h1, bd_s, h2, W1]
          exact ⟨_, W, rfl, rfl, fW⟩
      · rw [if_neg (fun g => a2 (j8.mp g)), if_neg (fun g => a2 (j8.mp g))]
        exact ⟨_, _, rfl, rfl, Fr.rfl _ _⟩
    · rw [if_neg (fun g => a1 (rm0.mp g)), if_pos (rm1.mpr a1)]
      exact ⟨_, _, rfl, rfl, Fr.rfl _ _⟩
  by_cases q : x2 = -1
  · obtain ⟨r, V', e1, e2, fV⟩ := core (.inl q)
    rw [e1, e2, if_pos q, if_pos q, bd_s, sm_l]
    try dsimp only
    exact QC.ret (by rw [fV 0 (by simp)]; exact su00 _ _) (updL0 out _) ((frQ (fr0 _ _)).tr (fV.mono (by simp))) trivial
  · by_cases hx : ix x2 (2 * nP (V 1))
    · obtain ⟨k, rfl, hk, hk2⟩ := of_ix hx
      obtain ⟨r, V', e1, e2, fV⟩ := core (.inr ⟨k, rfl, hk2⟩)
      simp only [if_neg q] at e1 e2 ⊢
      rw [if_pos hx, if_pos hx, bd_s, sm_l]
      simp only [if_true]
      rw [e1, e2, bd_s, sm_l]
      try dsimp only
      exact QC.ret (by rw [fV 0 (by simp)]; exact su00 _ _) (updL0 out _) ((frQ (fr0 _ _)).tr (fV.mono (by simp))) trivial
    · simp only [if_neg q]
      rw [if_neg hx, if_neg hx, bd_s, sm_r, bd_s, sm_r, if_pos rfl, if_neg (show ¬ ((1 : Int32) = 0) by decide)]
      try dsimp only
      exact QC.thr (su00 _ _) (by decide) (frQ (fr00 _ _ _)) trivial
end PCALL4
