section PCALL5
theorem useX (n : Nat) {v : St} {k : Nat} (h : v 1 0 = J k) : m_X11_useTapeUp n v = some (J k, su v 1 0 0) := by unfold m_X11_useTapeUp; rw [nm_s, nm_s, h]
theorem told2 {a : Nat → Int32} {len : Nat} (h : toldS a len = true) : len % 2 = 0 := by
  unfold toldS at h; rw [Bool.and_eq_true, decide_eq_true_eq] at h; exact h.1.1
theorem qHas {n : Nat} (hn : 5000 < n) {v0 T v V G : St} (hT : TR v0 T V) (hR : HR v (V 1)) (out : Nat → Int64) (x1 x2 : Int32) : QM (m_L_has n v0 T v G out x1 x2) (m_X12_has n V x1 x2) (fun a => a.2.2) (fun a V' => a.1 = su v0 1 0 0 ∧ V' 9 0 = 0 ∧ Fr [0, 9, 10, 11, 19] V V') := by
  obtain ⟨k, hk, h1, h9, hb⟩ := hT
  obtain ⟨u0, u1, u8, u9, u11, -, uf⟩ := usV_f V
  have uf' : Fr [0, 9, 10, 11, 19] V (usV V) := uf.mono (by simp)
  unfold m_L_has m_X11_has m_X11_findFits m_X12_has
  rw [useX n h1, bd_s, uses_s, bd_s, cPlank n hR.1 hR.2.1, refP (by rw [u1]; exact hR.1), u1]
  by_cases hx : ix x1 (nP (V 1))
  · rw [if_pos hx, if_pos hx, bd_s, sm_l]
    obtain ⟨p, rfl, hp, hp2⟩ := of_ix hx
    dsimp only
    rw [if_pos rfl, toldX hn hk, bd_s, toldR hn hk (by rw [u11]; exact h9), bd_s, u8, told_congr (a := T 0) (b := V 8) (fun j hj => (hb j (by omega)).1)]
    cases ht : toldS (V 8) k with
    | false =>
      rw [if_pos (show b2 false = 0 by decide), if_pos (show b2 false = 0 by decide), bd_s, sm_r, bd_s, sm_r, bd_s]
      dsimp only
      rw [if_neg (show ¬ (0 : Nat) = 2 by decide), if_pos rfl, show m_X12_throwsIf n (usV V) 1 2 = some (1, su (usV V) 0 0 2) from rfl, bd_s]
      dsimp only
      rw [if_neg (show ¬ ((1 : Int32) = 0) by decide)]
      try dsimp only
      exact QM.thr (su00 _ _) (by decide) ⟨rfl, by rw [su_n _ _ _ _ (by decide)]; exact u9, uf'.put (by simp) _ _⟩
    | true =>
      have h2 := told2 ht
      rw [if_neg (show ¬ b2 true = 0 by decide), if_neg (show ¬ b2 true = 0 by decide), bd_s, show m_X12_throwsIf n (usV V) 0 2 = some (0, usV V) from rfl, bd_s]
      dsimp only
      have hcg : ∀ j, j < 2 * (k / 2) → T 0 j = V 8 j := fun j hj => (hb j (by omega)).1
      obtain ⟨G', eg, g0, g1, g2⟩ := searchX hn hR hp (G := G) (T := T) hk h2
      have hl := hasR hn (u := usV V) (by rw [u1]; exact hR.1) (p := p) (by rw [u1]; exact hp) hk h2 (by rw [u11]; exact h9)
      rw [u1, u8] at hl
      rw [goneR hn (by rw [u1]; exact hR.1), u1] at hl
      rw [fitL_congr hcg] at g0 g1
      rw [fitA_congr hcg] at g1
      rw [eg, bd_s, bd_s, sm_l, if_pos rfl, goneR hn (by rw [u1]; exact hR.1), bd_s, u1, hl, bd_s]
      dsimp only
      rw [g0, g1]
      have hlen := fitL_len (V 1) p (V 8) (k / 2) (goneK (V 1))
      obtain ⟨m, em, hm⟩ := inS_J hR.1 (-1)
      have hKm : goneK (V 1) = m + 1 := by unfold goneK; rw [em, J_nat (by omega)]
      by_cases q : x2 = 0
      · rw [if_pos q, if_pos q, bd_s, sm_l]
        try dsimp only
        exact QM.ret u0 (updL0 out _) ⟨rfl, u9, uf'⟩
      · rw [if_neg q, if_neg q, bd_s, sm_l]
        by_cases q2 : (fitL (V 1) p (V 8) (k / 2) (goneK (V 1))).length = 0
        · rw [if_pos q2, if_pos (show J _ = 0 by rw [q2]; rfl)]
          try dsimp only
          exact QM.ret u0 (updL0 out _) ⟨rfl, u9, uf'⟩
        · rw [if_neg q2, if_neg (show ¬ J _ = 0 by rw [show (0 : Int32) = J 0 from rfl, J_inj (by omega) (by omega)]; exact q2)]
          try dsimp only
          exact QM.ret u0 (updL0 out _) ⟨rfl, u9, uf'⟩
  · rw [if_neg hx, if_neg hx, bd_s, sm_r, bd_s, sm_r, bd_s, sm_r, if_pos rfl, if_neg (show ¬ ((1 : Int32) = 0) by decide)]
    try dsimp only
    exact QM.thr (su00 _ _) (by decide) ⟨rfl, by rw [su_n _ _ _ _ (by decide)]; exact u9, uf'.put (by simp) _ _⟩
theorem qAsk {n : Nat} (hn : 5000 < n) {v0 T v V G : St} (hT : TR v0 T V) (hR : HR v (V 1)) (out : Nat → Int64) (x1 : Int32) : QM (m_L_ask n v0 T v G out x1) (m_X12_ask n V x1) (fun a => a.2.2) (fun a V' => a.1 = su v0 1 0 0 ∧ V' 9 0 = 0 ∧ Fr [0, 9, 10, 11, 19] V V') := by
  obtain ⟨k, hk, h1, h9, hb⟩ := hT
  obtain ⟨u0, u1, u8, u9, u11, -, uf⟩ := usV_f V
  have uf' : Fr [0, 9, 10, 11, 19] V (usV V) := uf.mono (by simp)
  unfold m_L_ask m_X11_ask m_X11_findFits m_X12_ask
  rw [useX n h1, bd_s, uses_s, bd_s, cPlank n hR.1 hR.2.1, refP (by rw [u1]; exact hR.1), u1]
  by_cases hx : ix x1 (nP (V 1))
  · rw [if_pos hx, if_pos hx, bd_s, sm_l]
    obtain ⟨p, rfl, hp, hp2⟩ := of_ix hx
    dsimp only
    rw [if_pos rfl, toldX hn hk, bd_s, toldR hn hk (by rw [u11]; exact h9), bd_s, u8, told_congr (a := T 0) (b := V 8) (fun j hj => (hb j (by omega)).1)]
    cases ht : toldS (V 8) k with
    | false =>
      rw [if_pos (show b2 false = 0 by decide), if_pos (show b2 false = 0 by decide), bd_s, sm_r, bd_s, sm_r, bd_s]
      dsimp only
      rw [if_neg (show ¬ (0 : Nat) = 2 by decide), if_pos rfl, show m_X12_throwsIf n (usV V) 1 2 = some (1, su (usV V) 0 0 2) from rfl, bd_s]
      dsimp only
      rw [if_neg (show ¬ ((1 : Int32) = 0) by decide)]
      try dsimp only
      exact QM.thr (su00 _ _) (by decide) ⟨rfl, by rw [su_n _ _ _ _ (by decide)]; exact u9, uf'.put (by simp) _ _⟩
    | true =>
      have h2 := told2 ht
      rw [if_neg (show ¬ b2 true = 0 by decide), if_neg (show ¬ b2 true = 0 by decide), bd_s, show m_X12_throwsIf n (usV V) 0 2 = some (0, usV V) from rfl, bd_s]
      dsimp only
      have hcg : ∀ j, j < 2 * (k / 2) → T 0 j = V 8 j := fun j hj => (hb j (by omega)).1
      obtain ⟨G', eg, g0, g1, g2⟩ := searchX hn hR hp (G := G) (T := T) hk h2
      have hl := cntR hn (u := usV V) (by rw [u1]; exact hR.1) (p := p) (by rw [u1]; exact hp) hk h2 (by rw [u11]; exact h9)
      rw [u1, u8] at hl
      rw [fitL_congr hcg] at g0 g2
      have hlen := fitL_len (V 1) p (V 8) (k / 2) (goneK (V 1))
      obtain ⟨m, em, hm⟩ := inS_J hR.1 (-1)
      have hKm : goneK (V 1) = m + 1 := by unfold goneK; rw [em, J_nat (by omega)]
      rw [eg, bd_s, bd_s, sm_l, if_pos rfl, hl, bd_s]
      dsimp only
      simp only [g0]
      by_cases q2 : 2 ≤ (fitL (V 1) p (V 8) (k / 2) (goneK (V 1))).length
      · have hc : ¬ J (fitL (V 1) p (V 8) (k / 2) (goneK (V 1))).length ≤ 1 := by rw [show (1 : Int32) = J 1 from rfl, J_le (by omega) (by omega)]; omega
        obtain ⟨⟨a, G2⟩, ea, ra⟩ := askX hn hR hp (G := G') (l := fitL (V 1) p (V 8) (k / 2) (goneK (V 1))) (by omega) g0 g2
        obtain ⟨⟨b, V'⟩, eb, rb, fb⟩ := askR hn (u := usV V) (by rw [u1]; exact hR.1) (p := p) (by rw [u1]; exact hp) hk h2 (by rw [u11]; exact h9) hc
        dsimp only at ra rb fb
        rw [u1, u8] at rb
        rw [if_pos (show (2 : Int32) ≤ _ by rw [show (2 : Int32) = J 2 from rfl, J_le (by omega) (by omega)]; exact q2), ea, bd_s, bd_s, sm_l, eb, bd_s]
        dsimp only
        rw [ra, rb]
        try dsimp only
        exact QM.ret (by rw [fb 0 (by simp)]; exact u0) (updL0 out _) ⟨rfl, by rw [fb 9 (by simp)]; exact u9, uf'.tr (fb.mono (by simp))⟩
      · have hc : J (fitL (V 1) p (V 8) (k / 2) (goneK (V 1))).length ≤ 1 := by rw [show (1 : Int32) = J 1 from rfl, J_le (by omega) (by omega)]; omega
        obtain ⟨n', rfl⟩ : ∃ j, n = j + 1 := ⟨n - 1, by omega⟩
        rw [if_neg (show ¬ (2 : Int32) ≤ _ by rw [show (2 : Int32) = J 2 from rfl, J_le (by omega) (by omega)]; exact q2), bd_s, sm_l, lp_succ, if_neg (show ¬ (20 : Int32) < 0 by decide), if_pos hc, bd_s]
        try dsimp only
        exact QM.ret u0 (updL0 out _) ⟨rfl, u9, uf'⟩
  · rw [if_neg hx, if_neg hx, bd_s, sm_r, bd_s, sm_r, bd_s, sm_r, if_pos rfl, if_neg (show ¬ ((1 : Int32) = 0) by decide)]
    try dsimp only
    exact QM.thr (su00 _ _) (by decide) ⟨rfl, by rw [su_n _ _ _ _ (by decide)]; exact u9, uf'.put (by simp) _ _⟩
end PCALL5
