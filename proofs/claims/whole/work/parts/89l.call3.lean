section PCALL3
theorem qHouse {n : Nat} (hn : 5000 < n) (v0 : St) {v V L : St} (hR : HR v (V 1)) (hL : LR L (V 1)) (out : Nat → Int64) (x1 x2 : Int32) : QC SQ V (m_L_house n v0 v L out x1 x2) (m_X12_house n V x1 x2) (fun a => a.2) (fun a => Fr [6] L a.1) := by
  unfold m_L_house m_X11_house m_X12_house
  rw [nm_s, cHouse n hR.1 hR.2.1, refH (by rw [su01]; exact hR.1), su01]
  by_cases hx : ix x1 (2 * nP (V 1))
  · rw [if_pos hx, if_pos hx, bd_s, sm_l]
    obtain ⟨h, rfl, hh, hp2⟩ := of_ix hx
    have p5 := hR.1.p5
    have hu : WInv ((su V 0 0 0) 1) := by rw [su01]; exact hR.1
    have huL : LWo ((su V 0 0 0) 1) := by rw [su01]; exact hL.o
    have hhu : h < 2 * nP ((su V 0 0 0) 1) := by rw [su01]; exact hh
    have i10 : ix (J h) 10 := J_ix (by omega) (by omega)
    rw [if_pos rfl, refN]
    dsimp only
    by_cases h2 : 0 ≤ x2 ∧ x2 ≤ 8
    · rw [if_pos h2, if_pos rfl]
      obtain ⟨j, hj, rfl⟩ := sm3 (k := 8) (by omega) h2
      have nj : ∀ a b : Nat, a < 9 → b < 9 → a ≠ b → ¬ J a = J b := fun a b ha hb hab => by rw [J_inj (by omega) (by omega)]; exact hab
      rcases (by omega : j = 0 ∨ j = 1 ∨ j = 2 ∨ j = 3 ∨ j = 4 ∨ j = 5 ∨ j = 6 ∨ j = 7 ∨ j = 8) with rfl | rfl | rfl | rfl | rfl | rfl | rfl | rfl | rfl
      · rw [if_pos (show J 0 = 0 by rfl), if_pos i10, bd_s, sm_l, if_neg (show ¬ J 0 = 2 by decide), if_neg (show ¬ J 0 = 3 by decide), if_neg (show ¬ J 0 = 4 by decide), if_neg (show ¬ J 0 = 5 by decide), if_neg (show ¬ J 0 = 6 by decide), if_neg (show ¬ J 0 = 7 by decide), if_neg (show ¬ J 0 = 8 by decide), show (J 0) = 0 from rfl, of_0 n _ (by omega), bd_s, su01, J_nat hp2, hR.2.1.purse hh]
        try dsimp only
        exact QC.ret (su00 _ _) (updL0 out _) (frQ (fr0 _ _)) (Fr.rfl _ _)
      · rw [if_neg (show ¬ J 1 = 0 by decide), if_pos (show J 1 = 1 by rfl), if_pos i10, bd_s, sm_l, if_neg (show ¬ J 1 = 2 by decide), if_neg (show ¬ J 1 = 3 by decide), if_neg (show ¬ J 1 = 4 by decide), if_neg (show ¬ J 1 = 5 by decide), if_neg (show ¬ J 1 = 6 by decide), if_neg (show ¬ J 1 = 7 by decide), if_neg (show ¬ J 1 = 8 by decide), show (J 1) = 1 from rfl, of_1 n _ (by omega), bd_s, su01, J_nat hp2, hR.2.1.guests hh]
        try dsimp only
        exact QC.ret (su00 _ _) (updL0 out _) (frQ (fr0 _ _)) (Fr.rfl _ _)
      · rw [if_neg (show ¬ J 2 = 0 by decide), if_neg (show ¬ J 2 = 1 by decide), if_pos (show J 2 = 2 by rfl), if_pos i10, bd_s, sm_l, if_pos (show J 2 = 2 by rfl), loadOf_s hn _ hu (by omega), bd_s, su01, J_nat hp2, (hR.2.2 h hh).1]
        try dsimp only
        exact QC.ret (su00 _ _) (updL0 out _) (frQ (fr0 _ _)) (Fr.rfl _ _)
      · rw [if_neg (show ¬ J 3 = 0 by decide), if_neg (show ¬ J 3 = 1 by decide), if_neg (show ¬ J 3 = 2 by decide), if_pos (show J 3 = 3 by rfl), if_pos i10, bd_s, sm_l, if_neg (show ¬ J 3 = 2 by decide), if_pos (show J 3 = 3 by rfl), heightOf_s hn _ hu (by omega), bd_s, su01, J_nat hp2, (hR.2.2 h hh).2]
        try dsimp only
        exact QC.ret (su00 _ _) (updL0 out _) (frQ (fr0 _ _)) (Fr.rfl _ _)
      · rw [if_neg (show ¬ J 4 = 0 by decide), if_neg (show ¬ J 4 = 1 by decide), if_neg (show ¬ J 4 = 2 by decide), if_neg (show ¬ J 4 = 3 by decide), if_pos (show J 4 = 4 by rfl), XthingsIn hn hR.1 hR.2.1, bd_s, bd_s, sm_l, if_neg (show ¬ J 4 = 2 by decide), if_neg (show ¬ J 4 = 3 by decide), if_pos (show J 4 = 4 by rfl), thingsIn_s hn _ _ hu.t hu.t10, bd_s, su01]
        try dsimp only
        exact QC.ret (su00 _ _) (updL0 out _) (frQ (fr0 _ _)) (Fr.rfl _ _)
      · rw [if_neg (show ¬ J 5 = 0 by decide), if_neg (show ¬ J 5 = 1 by decide), if_neg (show ¬ J 5 = 2 by decide), if_neg (show ¬ J 5 = 3 by decide), if_neg (show ¬ J 5 = 4 by decide), if_pos (show J 5 = 5 by rfl), if_neg (show ¬ J 5 = 2 by decide), if_neg (show ¬ J 5 = 3 by decide), if_neg (show ¬ J 5 = 4 by decide), if_pos (show J 5 = 5 by rfl)]
        obtain ⟨⟨a, L'⟩, ea, fa, ra⟩ := XpaysBy1 hn hL (hR.hf hh) hR.2.1.fee (show h < 10 by omega)
        obtain ⟨⟨b, V'⟩, eb, fb, rb⟩ := paysBy_ok hn (su V 0 0 0) hu huL hhu
        dsimp only at fa ra fb rb
        subst ra rb
        rw [ea, eb, bd_s, bd_s, bd_s, sm_l, su01]
        try dsimp only
        exact QC.ret (by rw [fb 0 (by simp)]; exact su00 _ _) (updL0 out _) ((frQ (fr0 _ _)).tr (frB fb)) fa
      · rw [if_neg (show ¬ J 6 = 0 by decide), if_neg (show ¬ J 6 = 1 by decide), if_neg (show ¬ J 6 = 2 by decide), if_neg (show ¬ J 6 = 3 by decide), if_neg (show ¬ J 6 = 4 by decide), if_neg (show ¬ J 6 = 5 by decide), if_pos (show J 6 = 6 by rfl), if_neg (show ¬ J 6 = 2 by decide), if_neg (show ¬ J 6 = 3 by decide), if_neg (show ¬ J 6 = 4 by decide), if_neg (show ¬ J 6 = 5 by decide), if_pos (show J 6 = 6 by rfl)]
        obtain ⟨⟨a, L'⟩, ea, fa, ra⟩ := XluresBy hn hL hR hh
        obtain ⟨⟨b, V'⟩, eb, fb, rb⟩ := luresBy_ok hn (su V 0 0 0) hu huL hhu
        dsimp only at fa ra fb rb
        subst ra rb
        rw [ea, eb, bd_s, bd_s, bd_s, sm_l, su01]
        try dsimp only
        exact QC.ret (by rw [fb 0 (by simp)]; exact su00 _ _) (updL0 out _) ((frQ (fr0 _ _)).tr (frB fb)) fa
      · rw [if_neg (show ¬ J 7 = 0 by decide), if_neg (show ¬ J 7 = 1 by decide), if_neg (show ¬ J 7 = 2 by decide), if_neg (show ¬ J 7 = 3 by decide), if_neg (show ¬ J 7 = 4 by decide), if_neg (show ¬ J 7 = 5 by decide), if_neg (show ¬ J 7 = 6 by decide), if_pos (show J 7 = 7 by rfl), shareX hn hR hh, bd_s, bd_s, sm_l, if_neg (show ¬ J 7 = 2 by decide), if_neg (show ¬ J 7 = 3 by decide), if_neg (show ¬ J 7 = 4 by decide), if_neg (show ¬ J 7 = 5 by decide), if_neg (show ¬ J 7 = 6 by decide), if_pos (show J 7 = 7 by rfl), shareR hn hu hhu, bd_s, su01]
        try dsimp only
        exact QC.ret (su00 _ _) (updL0 out _) (frQ (fr0 _ _)) (Fr.rfl _ _)
      · rw [if_neg (show ¬ J 8 = 0 by decide), if_neg (show ¬ J 8 = 1 by decide), if_neg (show ¬ J 8 = 2 by decide), if_neg (show ¬ J 8 = 3 by decide), if_neg (show ¬ J 8 = 4 by decide), if_neg (show ¬ J 8 = 5 by decide), if_neg (show ¬ J 8 = 6 by decide), if_neg (show ¬ J 8 = 7 by decide), if_pos (show J 8 = 8 by rfl), corkX hR hh, bd_s, bd_s, sm_l, if_neg (show ¬ J 8 = 2 by decide), if_neg (show ¬ J 8 = 3 by decide), if_neg (show ¬ J 8 = 4 by decide), if_neg (show ¬ J 8 = 5 by decide), if_neg (show ¬ J 8 = 6 by decide), if_neg (show ¬ J 8 = 7 by decide), if_pos (show J 8 = 8 by rfl), corkR hn hu hhu, bd_s, su01]
        try dsimp only
        exact QC.ret (su00 _ _) (updL0 out _) (frQ (fr0 _ _)) (Fr.rfl _ _)
    · have ne : ∀ k, k ≤ 8 → ¬ x2 = J k := fun k hk g => h2 (by
        rw [g]
        rcases (by omega : k = 0 ∨ k = 1 ∨ k = 2 ∨ k = 3 ∨ k = 4 ∨ k = 5 ∨ k = 6 ∨ k = 7 ∨ k = 8) with rfl | rfl | rfl | rfl | rfl | rfl | rfl | rfl | rfl <;> decide)
      rw [if_neg h2, if_neg (show ¬ x2 = 0 from ne 0 (by omega)), if_neg (show ¬ x2 = 1 from ne 1 (by omega)), if_neg (show ¬ x2 = 2 from ne 2 (by omega)), if_neg (show ¬ x2 = 3 from ne 3 (by omega)), if_neg (show ¬ x2 = 4 from ne 4 (by omega)), if_neg (show ¬ x2 = 5 from ne 5 (by omega)), if_neg (show ¬ x2 = 6 from ne 6 (by omega)), if_neg (show ¬ x2 = 7 from ne 7 (by omega)), if_neg (show ¬ x2 = 8 from ne 8 (by omega)), bd_s, sm_r, if_neg (show ¬ (3 : Nat) = 2 by decide), if_pos rfl, if_neg (show ¬ ((1 : Int32) = 0) by decide)]
      try dsimp only
      exact QC.thr (su00 _ _) (by decide) (frQ (fr00 _ _ _)) (Fr.rfl _ _)
  · rw [if_neg hx, if_neg hx, bd_s, sm_r, bd_s, sm_r, if_pos rfl, if_neg (show ¬ ((1 : Int32) = 0) by decide)]
    try dsimp only
    exact QC.thr (su00 _ _) (by decide) (frQ (fr00 _ _ _)) (Fr.rfl _ _)
theorem qRent {n : Nat} (hn : 5000 < n) (v0 s : St) {v V L : St} (hR : HR v (V 1)) (hL : LR L (V 1)) (out : Nat → Int64) (x1 x2 : Int32) : QC SQ V (m_L_rent n v0 v L s out x1 x2) (m_X12_rent n V x1 x2) (fun a => a.2.2) (fun a => Fr [6] L a.1) := by
  unfold m_L_rent m_X11_rent m_X12_rent
  rw [nm_s, cHouse n hR.1 hR.2.1, refH (by rw [su01]; exact hR.1), su01]
  by_cases hx : ix x1 (2 * nP (V 1))
  · rw [if_pos hx, if_pos hx, bd_s, sm_l]
    obtain ⟨h, rfl, hh, hp2⟩ := of_ix hx
    have p5 := hR.1.p5
    have i10 : ix (J h) 10 := J_ix (by omega) (by omega)
    rw [if_pos rfl, cNumber, refN]
    dsimp only
    by_cases h2 : 0 ≤ x2 ∧ x2 ≤ 100
    · rw [if_pos h2, if_pos h2, bd_s, sm_l, if_pos rfl]
      obtain ⟨m, hm, rfl⟩ := sm3 (k := 100) (by omega) h2
      obtain ⟨⟨L', s'⟩, ea, u, hu, hs, fa⟩ := lookX hn hR hL (v0 := v0) (s := s) (p := h / 2) (by omega) hm
      obtain ⟨V', eb, e1, fb⟩ := aheadR hn (su V 0 0 0) (by rw [su01]; exact hR.1) (by rw [su01]; exact hL.o) hm
      dsimp only at fa hu
      rw [su01] at e1
      obtain ⟨c1, c2, c3, c4⟩ := calm_it hR.1 hL.o m
      have eu : s' 13 h = itN calmW (V 1) m (32 + 2 * h) := by
        rw [hu.2.1.purse (by rw [hs.1.eqP, c3]; exact hh), hs.purse rfl]
      have f0 : V' 0 0 = 0 := by rw [fb 0 (by simp), sA_n _ _ _ (by decide)]; exact su00 _ _
      have kb := keep_back fb (fun k hk => by rw [e1, c4 k (by omega), su01])
      rw [J_div2 (by omega), ea, bd_s, if_pos i10, if_pos i10, bd_s, sm_l, J_nat hp2, hR.2.1.purse hh, of_0 n _ (by omega), bd_s, eb, bd_s, of_0 n _ (by omega), bd_s, nm_s, backR hn, bd_s, su01, e1]
      dsimp only
      rw [eu]
      try dsimp only
      exact QC.ret (by rw [sA_n _ _ _ (by decide)]; exact f0) (updL0 out _) ((frQ (fr0 _ _)).tr (frD (by rw [e1] at kb; exact kb))) fa
    · rw [if_neg h2, if_neg h2, bd_s, sm_r, bd_s, sm_r, if_neg (show ¬ (0 : Nat) = 2 by decide), if_pos rfl, if_neg (show ¬ ((1 : Int32) = 0) by decide)]
      try dsimp only
      exact QC.thr (su00 _ _) (by decide) (frQ (fr00 _ _ _)) (Fr.rfl _ _)
  · rw [if_neg hx, if_neg hx, bd_s, sm_r, bd_s, sm_r, if_pos rfl, if_neg (show ¬ ((1 : Int32) = 0) by decide)]
    try dsimp only
    exact QC.thr (su00 _ _) (by decide) (frQ (fr00 _ _ _)) (Fr.rfl _ _)
theorem qAhead {n : Nat} (hn : 5000 < n) (v0 s : St) {v V L : St} (hR : HR v (V 1)) (hL : LR L (V 1)) (out : Nat → Int64) (x1 x2 x3 : Int32) : QC SQ V (m_L_ahead n v0 v L s out x1 x2 x3) (m_X12_ahead n V x1 x2 x3) (fun a => a.2.2) (fun a => Fr [6] L a.1) := by
  unfold m_L_ahead m_X11_ahead m_X12_ahead
  rw [nm_s, cHouse n hR.1 hR.2.1, refH (by rw [su01]; exact hR.1), su01]
  by_cases hx : ix x1 (2 * nP (V 1))
  · rw [if_pos hx, if_pos hx, bd_s, sm_l]
    obtain ⟨h, rfl, hh, hp2⟩ := of_ix hx
    have p5 := hR.1.p5
    have i10 : ix (J h) 10 := J_ix (by omega) (by omega)
    rw [if_pos rfl, cNumber, refN]
    dsimp only
    by_cases h2 : 0 ≤ x2 ∧ x2 ≤ 100
    · rw [if_pos h2, if_pos h2, bd_s, sm_l, if_pos rfl]
      obtain ⟨m, hm, rfl⟩ := sm3 (k := 100) (by omega) h2
      obtain ⟨⟨L', s'⟩, ea, u, hu, hs, fa⟩ := lookX hn hR hL (v0 := v0) (s := s) (p := h / 2) (by omega) hm
      obtain ⟨V', eb, e1, fb⟩ := aheadR hn (su V 0 0 0) (by rw [su01]; exact hR.1) (by rw [su01]; exact hL.o) hm
      dsimp only at fa hu
      rw [su01] at e1
      obtain ⟨c1, c2, c3, c4⟩ := calm_it hR.1 hL.o m
      have hu2 : h < 2 * nP u := by rw [hs.1.eqP, c3]; exact hh
      have eu : s' 13 h = itN calmW (V 1) m (32 + 2 * h) := by rw [hu.2.1.purse hu2, hs.purse rfl]
      have eh : s' 19 h = heightS (itN calmW (V 1) m) h := by rw [(hu.2.2 h hu2).2, hs.1.height c1.t10 rfl]
      have f0 : V' 0 0 = 0 := by rw [fb 0 (by simp), sA_n _ _ _ (by decide)]; exact su00 _ _
      have kb := keep_back fb (fun k hk => by rw [e1, c4 k (by omega), su01])
      rw [J_div2 (by omega), ea, bd_s, eb, bd_s, heightOf_s hn _ (by rw [e1]; exact c1) (by omega), of_0 n _ (by omega), bd_s, bd_s, e1]
      by_cases q : x3 = 0
      · rw [if_pos q, if_pos i10, bd_s, sm_l, if_pos q, bd_s, backR hn, bd_s, J_nat hp2]
        dsimp only
        rw [eh]
        try dsimp only
        exact QC.ret (by rw [sA_n _ _ _ (by decide)]; exact f0) (updL0 out _) ((frQ (fr0 _ _)).tr (frD kb)) fa
      · rw [if_neg q, if_pos i10, bd_s, sm_l, if_neg q, bd_s, backR hn, bd_s, J_nat hp2]
        dsimp only
        rw [eu]
        try dsimp only
        exact QC.ret (by rw [sA_n _ _ _ (by decide)]; exact f0) (updL0 out _) ((frQ (fr0 _ _)).tr (frD kb)) fa
    · rw [if_neg h2, if_neg h2, bd_s, sm_r, bd_s, sm_r, if_neg (show ¬ (0 : Nat) = 2 by decide), if_pos rfl, if_neg (show ¬ ((1 : Int32) = 0) by decide)]
      try dsimp only
      exact QC.thr (su00 _ _) (by decide) (frQ (fr00 _ _ _)) (Fr.rfl _ _)
  · rw [if_neg hx, if_neg hx, bd_s, sm_r, bd_s, sm_r, if_pos rfl, if_neg (show ¬ ((1 : Int32) = 0) by decide)]
    try dsimp only
    exact QC.thr (su00 _ _) (by decide) (frQ (fr00 _ _ _)) (Fr.rfl _ _)
theorem qLoot {n : Nat} (hn : 5000 < n) (v0 s : St) {v V L : St} (hR : HR v (V 1)) (hL : LR L (V 1)) (out : Nat → Int64) (x1 : Int32) : QC SQ V (m_L_loot n v0 v L s out x1) (m_X12_loot n V x1) (fun a => a.2.2) (fun a => Fr [6] L a.1) := by
  unfold m_L_loot m_X11_loot m_X12_loot
  rw [nm_s, cNumber, refN]
  by_cases h2 : 0 ≤ x1 ∧ x1 ≤ 10
  · rw [if_pos h2, if_pos h2, bd_s, sm_l, if_pos rfl]
    obtain ⟨m, hm, rfl⟩ := sm3 (k := 10) (by omega) h2
    obtain ⟨_, ea, L', s', rfl, fa⟩ := lootX hn hR hL (s := s) hm
    obtain ⟨⟨b, V'⟩, eb, rb, fb⟩ := lootR hn (su V 0 0 0) (by rw [su01]; exact hR.1) (by rw [su01]; exact hL.o) hm
    dsimp only at rb fb
    rw [su01] at rb
    rw [ea, eb, bd_s, sm_l, rb]
    try dsimp only
    exact QC.ret (by rw [fb 0 (by simp)]; exact su00 _ _) (updL0 out _) ((frQ (fr0 _ _)).tr (frD fb)) fa
  · rw [if_neg h2, if_neg h2, bd_s, sm_r, bd_s, sm_r, if_pos rfl, if_neg (show ¬ ((1 : Int32) = 0) by decide)]
    try dsimp only
    exact QC.thr (su00 _ _) (by decide) (frQ (fr00 _ _ _)) (Fr.rfl _ _)
theorem qGuards {n : Nat} (hn : 5000 < n) (v0 s : St) {v V L : St} (hR : HR v (V 1)) (hL : LR L (V 1)) (out : Nat → Int64) (x1 x2 : Int32) : QC SQ V (m_L_guards n v0 v L s out x1 x2) (m_X12_guards n V x1 x2) (fun a => a.2.2) (fun a => Fr [6] L a.1) := by
  unfold m_L_guards m_X11_guards m_X12_guards
  rw [nm_s, cNumber, cNumber, in_s, in_s, bd_s]
  have e : ∀ {α : Type} (K : Int32 → Option α), bd (jn (fun (_ : Unit) => some (1 : Int32)) (fun (K11 : Unit → Option (Int32)) => (if b2i (0 ≤ x1 ∧ x1 ≤ 8) = 0 then K11 () else bd (some (b2i (0 ≤ x2 ∧ x2 ≤ 99))) (fun t12 => if t12 = 0 then K11 () else some 0)))) K = K (b2i (¬ ((0 ≤ x1 ∧ x1 ≤ 8) ∧ (0 ≤ x2 ∧ x2 ≤ 99)))) := by
    intro α K
    simp only [jn_s, bd_s]
    by_cases a1 : 0 ≤ x1 ∧ x1 ≤ 8 <;> by_cases a2 : 0 ≤ x2 ∧ x2 ≤ 99 <;> simp [a1, a2, b2i, bd_s]
  rw [e, thr_b]
  by_cases h1 : 0 ≤ x1 ∧ x1 ≤ 8
  · by_cases h2 : 0 ≤ x2 ∧ x2 ≤ 99
    · rw [if_pos h1, bd_s, sm_l, if_pos h2, bd_s, sm_l, if_neg (fun g => g ⟨h1, h2⟩), bd_s]
      obtain ⟨m, hm, rfl⟩ := sm3 (k := 8) (by omega) h1
      have hl : (-1 : Int32) ≤ x2 := by have := h2.1; grind
      obtain ⟨_, ea, a, L', s', rfl, ga, fa⟩ := guardX hn hR hL (v0 := v0) (s := s) hm hl
      obtain ⟨⟨b, V'⟩, eb, gb, fb⟩ := guardR hn (su V 0 0 0) (by rw [su01]; exact hR.1) (by rw [su01]; exact hL.o) hm hl
      dsimp only at gb fb
      rw [su01] at gb
      have hab : a = b := ga.uniq (pow_le hR.1.p5) gb
      dsimp only
      rw [if_pos rfl, ea, eb, bd_s, sm_l, hab]
      try dsimp only
      exact QC.ret (by rw [fb 0 (by simp)]; exact su00 _ _) (updL0 out _) ((frQ (fr0 _ _)).tr (frD fb)) fa
    · rw [if_pos h1, bd_s, sm_l, if_neg h2, bd_s, sm_r, bd_s, sm_r, if_pos rfl, if_pos (fun g => h2 g.2), bd_s, if_neg (show ¬ ((1 : Int32) = 0) by decide)]
      try dsimp only
      exact QC.thr (su00 _ _) (by decide) (frQ (fr00 _ _ _)) (Fr.rfl _ _)
  · rw [if_neg h1, bd_s, sm_r, bd_s, sm_r, if_pos rfl, if_pos (fun g => h1 g.1), bd_s, if_neg (show ¬ ((1 : Int32) = 0) by decide)]
    try dsimp only
    exact QC.thr (su00 _ _) (by decide) (frQ (fr00 _ _ _)) (Fr.rfl _ _)
end PCALL3
