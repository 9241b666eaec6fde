section PCALL2
theorem frB {V V' : St} (h : Fr [17] V V') : Fr SQ V V' := h.mono (by simp)
theorem frD {V V' : St} (h : Fr [4, 17] V V') : Fr SQ V V' := h.mono (by simp)
theorem level_iff {w : Nat → Int32} (p : Nat) : heightS w (2 * p) = 5 ↔ (¬ w (15 + 4 * p) = 1 ∧ tiltS w p = 0) := by
  unfold heightS
  rw [show 2 * p / 2 = p from by omega, show 2 * p % 2 = 0 from by omega, if_pos rfl]
  by_cases h : w (15 + 4 * p) = 1
  · rw [if_pos h]; constructor
    · intro g; exact absurd g (by decide)
    · intro g; exact absurd h g.1
  · rw [if_neg h]
    constructor
    · intro g; exact ⟨h, by grind⟩
    · intro g; rw [g.2]; decide
theorem qPlank {n : Nat} (hn : 5000 < n) (v0 : St) {v V L : St} (hR : HR v (V 1)) (hL : LR L (V 1)) (out : Nat → Int64) (x1 x2 : Int32) : QC SQ V (m_L_plank n v0 v L out x1 x2) (m_X12_plank n V x1 x2) (fun a => a.2) (fun a => Fr [6] L a.1) := by
  unfold m_L_plank m_X11_plank m_X12_plank
  rw [nm_s, cPlank n hR.1 hR.2.1, refP (by rw [su01]; exact hR.1), su01]
  by_cases hx : ix x1 (nP (V 1))
  · rw [if_pos hx, if_pos hx, bd_s, sm_l]
    obtain ⟨p, rfl, hp, hp2⟩ := of_ix hx
    have p5 := hR.1.p5
    have hu : WInv ((su V 0 0 0) 1) := by rw [su01]; exact hR.1
    have huL : LWo ((su V 0 0 0) 1) := by rw [su01]; exact hL.o
    have i5 : ix (J p) 5 := J_ix (by omega) (by omega)
    rw [if_pos rfl, refN]
    dsimp only
    by_cases h2 : 0 ≤ x2 ∧ x2 ≤ 6
    · rw [if_pos h2, if_pos rfl]
      obtain ⟨j, hj, rfl⟩ := sm3 (k := 6) (by omega) h2
      obtain ⟨-, -, b1, b2⟩ := hR.1.pl hp
      rcases (by omega : j = 0 ∨ j = 1 ∨ j = 2 ∨ j = 3 ∨ j = 4 ∨ j = 5 ∨ j = 6) with rfl | rfl | rfl | rfl | rfl | rfl | rfl
      · rw [if_pos (show J 0 = 0 by rfl), if_pos i5, bd_s, sm_l, if_neg (show ¬ J 0 = 4 by decide), if_neg (show ¬ J 0 = 5 by decide), if_neg (show ¬ J 0 = 6 by decide), show (J 0) = 0 from rfl, ofPlank_0 n _ (by omega), bd_s, su01, J_nat hp2, hR.2.1.bears hp]
        try dsimp only
        exact QC.ret (su00 _ _) (updL0 out _) (frQ (fr0 _ _)) (Fr.rfl _ _)
      · rw [if_neg (show ¬ J 1 = 0 by decide), if_pos (show J 1 = 1 by rfl), if_pos i5, bd_s, sm_l, if_neg (show ¬ J 1 = 4 by decide), if_neg (show ¬ J 1 = 5 by decide), if_neg (show ¬ J 1 = 6 by decide), show (J 1) = 1 from rfl, ofPlank_1 n _ (by omega), bd_s, su01, J_nat hp2, hR.2.1.age hp]
        try dsimp only
        exact QC.ret (su00 _ _) (updL0 out _) (frQ (fr0 _ _)) (Fr.rfl _ _)
      · have e : (if ix (J p) 5 then (if v 11 (J p).toNatClampNeg = 0 then some (Sum.inl ((0 : Int32), L)) else some (Sum.inl (1, L))) else none : Option ((Int32 × St) ⊕ (Nat × St))) = some (Sum.inl (V 1 (14 + 4 * p), L)) := by
          rw [if_pos i5, J_nat hp2, hR.2.1.prop hp]
          rcases b1 with h | h
          · rw [if_pos h, h]
          · rw [if_neg (by rw [h]; decide), h]
        rw [if_neg (show ¬ J 2 = 0 by decide), if_neg (show ¬ J 2 = 1 by decide), if_pos (show J 2 = 2 by rfl), e, bd_s, sm_l, if_neg (show ¬ J 2 = 4 by decide), if_neg (show ¬ J 2 = 5 by decide), if_neg (show ¬ J 2 = 6 by decide), show (J 2) = 2 from rfl, ofPlank_2 n _ (by omega), bd_s, su01]
        try dsimp only
        exact QC.ret (su00 _ _) (updL0 out _) (frQ (fr0 _ _)) (Fr.rfl _ _)
      · have e : (if ix (J p) 5 then (if v 12 (J p).toNatClampNeg = 0 then some (Sum.inl ((0 : Int32), L)) else some (Sum.inl (1, L))) else none : Option ((Int32 × St) ⊕ (Nat × St))) = some (Sum.inl (V 1 (15 + 4 * p), L)) := by
          rw [if_pos i5, J_nat hp2, hR.2.1.broken hp]
          rcases b2 with h | h
          · rw [if_pos h, h]
          · rw [if_neg (by rw [h]; decide), h]
        rw [if_neg (show ¬ J 3 = 0 by decide), if_neg (show ¬ J 3 = 1 by decide), if_neg (show ¬ J 3 = 2 by decide), if_pos (show J 3 = 3 by rfl), e, bd_s, sm_l, if_neg (show ¬ J 3 = 4 by decide), if_neg (show ¬ J 3 = 5 by decide), if_neg (show ¬ J 3 = 6 by decide), show (J 3) = 3 from rfl, ofPlank_3 n _ (by omega), bd_s, su01]
        try dsimp only
        exact QC.ret (su00 _ _) (updL0 out _) (frQ (fr0 _ _)) (Fr.rfl _ _)
      · rw [if_neg (show ¬ J 4 = 0 by decide), if_neg (show ¬ J 4 = 1 by decide), if_neg (show ¬ J 4 = 2 by decide), if_neg (show ¬ J 4 = 3 by decide), if_pos (show J 4 = 4 by rfl), XtiltR hR hp, bd_s, bd_s, sm_l, if_pos (show J 4 = 4 by rfl), tiltOf_s hn _ hu (by omega), bd_s, su01]
        try dsimp only
        exact QC.ret (su00 _ _) (updL0 out _) (frQ (fr0 _ _)) (Fr.rfl _ _)
      · have e : m_X3_isLevel n v (J p) = some (b2i (¬ V 1 (15 + 4 * p) = 1 ∧ tiltS (V 1) p = 0)) := by
          unfold m_X3_isLevel
          rw [J_dbl, if_pos (show ix (J (2 * p)) 10 from J_ix (by omega) (by omega)), J_nat (by omega), (hR.2.2 (2 * p) (by omega)).2]
          by_cases g : heightS (V 1) (2 * p) = 5
          · rw [if_pos g, show b2i (¬ V 1 (15 + 4 * p) = 1 ∧ tiltS (V 1) p = 0) = 1 from if_pos ((level_iff p).mp g)]
          · rw [if_neg g, show b2i (¬ V 1 (15 + 4 * p) = 1 ∧ tiltS (V 1) p = 0) = 0 from if_neg (fun z => g ((level_iff p).mpr z))]
        rw [if_neg (show ¬ J 5 = 0 by decide), if_neg (show ¬ J 5 = 1 by decide), if_neg (show ¬ J 5 = 2 by decide), if_neg (show ¬ J 5 = 3 by decide), if_neg (show ¬ J 5 = 4 by decide), if_pos (show J 5 = 5 by rfl), e, bd_s, if_neg (show ¬ J 5 = 4 by decide), if_pos (show J 5 = 5 by rfl), isLevel_s hn _ hu (by omega), bd_s, su01]
        by_cases g : (¬ V 1 (15 + 4 * p) = 1 ∧ tiltS (V 1) p = 0)
        · rw [show b2i (¬ V 1 (15 + 4 * p) = 1 ∧ tiltS (V 1) p = 0) = 1 from if_pos g, if_neg (show ¬ ((1 : Int32) = 0) by decide), if_neg (show ¬ ((1 : Int32) = 0) by decide), bd_s, sm_l]
          try dsimp only
          exact QC.ret (su00 _ _) (updL0 out _) (frQ (fr0 _ _)) (Fr.rfl _ _)
        · rw [show b2i (¬ V 1 (15 + 4 * p) = 1 ∧ tiltS (V 1) p = 0) = 0 from if_neg g, if_pos rfl, if_pos rfl, bd_s, sm_l]
          try dsimp only
          exact QC.ret (su00 _ _) (updL0 out _) (frQ (fr0 _ _)) (Fr.rfl _ _)
      · rw [if_neg (show ¬ J 6 = 0 by decide), if_neg (show ¬ J 6 = 1 by decide), if_neg (show ¬ J 6 = 2 by decide), if_neg (show ¬ J 6 = 3 by decide), if_neg (show ¬ J 6 = 4 by decide), if_neg (show ¬ J 6 = 5 by decide), if_pos (show J 6 = 6 by rfl), if_neg (show ¬ J 6 = 4 by decide), if_neg (show ¬ J 6 = 5 by decide), if_pos (show J 6 = 6 by rfl)]
        obtain ⟨⟨a, L'⟩, ea, fa, ra⟩ := XagesBy1 hn hL (hR.hf (q := 2 * p) (by omega)) (show p < 5 by omega)
        obtain ⟨⟨b, V'⟩, eb, fb, rb⟩ := agesBy_ok hn (su V 0 0 0) hu huL (p := p) (by rw [su01]; exact hp)
        dsimp only at fa ra fb rb
        subst ra rb
        rw [ea, eb, bd_s, bd_s, bd_s, sm_l, su01]
        try dsimp only
        exact QC.ret (by rw [fb 0 (by simp)]; exact su00 _ _) (updL0 out _) ((frQ (fr0 _ _)).tr (frB fb)) fa
    · have ne : ∀ k, k ≤ 6 → ¬ x2 = J k := fun k hk g => h2 (by
        rw [g]
        rcases (by omega : k = 0 ∨ k = 1 ∨ k = 2 ∨ k = 3 ∨ k = 4 ∨ k = 5 ∨ k = 6) with rfl | rfl | rfl | rfl | rfl | rfl | rfl <;> decide)
      rw [if_neg h2, if_neg (show ¬ x2 = 0 from ne 0 (by omega)), if_neg (show ¬ x2 = 1 from ne 1 (by omega)), if_neg (show ¬ x2 = 2 from ne 2 (by omega)), if_neg (show ¬ x2 = 3 from ne 3 (by omega)), if_neg (show ¬ x2 = 4 from ne 4 (by omega)), if_neg (show ¬ x2 = 5 from ne 5 (by omega)), if_neg (show ¬ x2 = 6 from ne 6 (by omega)), bd_s, sm_r, if_neg (show ¬ (3 : Nat) = 2 by decide), if_pos rfl, if_neg (show ¬ ((1 : Int32) = 0) by decide)]
      try dsimp only
      exact QC.thr (su00 _ _) (by decide) (frQ (fr00 _ _ _)) (Fr.rfl _ _)
  · rw [if_neg hx, if_neg hx, bd_s, sm_r, bd_s, sm_r, if_pos rfl, if_neg (show ¬ ((1 : Int32) = 0) by decide)]
    dsimp only
    try dsimp only
    exact QC.thr (su00 _ _) (by decide) (frQ (fr00 _ _ _)) (Fr.rfl _ _)
theorem qBreaks {n : Nat} (hn : 5000 < n) (v0 s : St) {v V L : St} (hR : HR v (V 1)) (hL : LR L (V 1)) (out : Nat → Int64) (x1 : Int32) : QC SQ V (m_L_breaks n v0 v L s out x1) (m_X12_breaks n V x1) (fun a => a.2.2) (fun a => Fr [6] L a.1) := by
  unfold m_L_breaks m_X11_breaks m_X12_breaks
  rw [nm_s, cPlank n hR.1 hR.2.1, refP (by rw [su01]; exact hR.1), su01]
  by_cases hx : ix x1 (nP (V 1))
  · rw [if_pos hx, if_pos hx, bd_s, sm_l]
    obtain ⟨p, rfl, hp, hp2⟩ := of_ix hx
    have p5 := hR.1.p5
    dsimp only
    obtain ⟨⟨a, L', s'⟩, ea, ra, fa⟩ := breaksX hn hR hL hp (v0 := v0) (s := s)
    obtain ⟨⟨b, V'⟩, eb, rb, fb'⟩ := breaksR hn (su V 0 0 0) (by rw [su01]; exact hR.1) (by rw [su01]; exact hL.o) (p := p) (by rw [su01]; exact hp)
    dsimp only at fa ra fb' rb
    have fl := fb_le (V 1) p
    rw [su01] at rb
    rw [if_pos rfl, ea, bd_s, bd_s, sm_l, isBroken_s n _ (by omega), bd_s, eb, bd_s, su01]
    by_cases g : V 1 (15 + 4 * p) = 1
    · rw [if_pos g] at ra
      rw [if_neg (show ¬ b2i (V 1 (15 + 4 * p) = 1) = 0 by rw [show b2i (V 1 (15 + 4 * p) = 1) = 1 from if_pos g]; decide), bd_s]
      dsimp only
      rw [if_pos rfl, ra]
      try dsimp only
      exact QC.ret (su00 _ _) (updL0 out _) (frQ (fr0 _ _)) fa
    · rw [if_neg g] at ra
      rw [if_pos (show b2i (V 1 (15 + 4 * p) = 1) = 0 from if_neg g), bd_s]
      dsimp only
      rw [rb]
      by_cases g2 : fb (V 1) p < 100
      · rw [if_pos g2] at ra
        rw [if_neg (show ¬ J (fb (V 1) p + 1) = 101 by rw [show (101 : Int32) = J 101 from rfl, J_inj (by omega) (by omega)]; omega), ra]
        try dsimp only
        exact QC.ret (by rw [fb' 0 (by simp)]; exact su00 _ _) (updL0 out _) ((frQ (fr0 _ _)).tr (frD fb')) fa
      · rw [if_neg g2] at ra
        rw [if_pos (show J (fb (V 1) p + 1) = 101 by rw [show fb (V 1) p + 1 = 101 from by omega]; rfl), ra]
        try dsimp only
        exact QC.ret (by rw [fb' 0 (by simp)]; exact su00 _ _) (updL0 out _) ((frQ (fr0 _ _)).tr (frD fb')) fa
  · rw [if_neg hx, if_neg hx, bd_s, sm_r, bd_s, sm_r, if_pos rfl, if_neg (show ¬ ((1 : Int32) = 0) by decide)]
    dsimp only
    try dsimp only
    exact QC.thr (su00 _ _) (by decide) (frQ (fr00 _ _ _)) (Fr.rfl _ _)
end PCALL2
