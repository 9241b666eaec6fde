section PCALL8
variable {v0 v1 v3 v4 v5 v6 v7 v10 v12 v13 v14 v15 : St} {v16 v17 : Nat → St} {V : St}
theorem rSweep {n : Nat} (hn : 5000 < n) (h : RI v0 v1 v3 v4 v5 v6 v7 v10 v12 v13 v14 v15 v16 v17 V) : ∃ r v' p' H' D' V', m_X11_sweep n v0 v5 v7 v12 v16 v17 = some (r, v', p', H', D') ∧ m_X12_sweep n V = some (r, V') ∧ RI v0 v1 v3 v4 v' v6 v7 v10 p' v13 v14 v15 H' D' V' := by
  have hR := h.hr
  obtain ⟨⟨p', H', D'⟩, W, er, eW, fW, W0, W1, pW⟩ := remU hn h.pr hR h.dr
  have hB' := hR.2.1.u_snow hR.1 0
  have hI' := hR.1.u_snow 0 ⟨0, rfl, by omega, by omega⟩
  obtain ⟨v', ev, hv⟩ := weighH hn hI' hB'
  have e1 : su W 1 5 0 1 = upd (V 1) 5 0 := by rw [su_e, W1]
  refine ⟨V 1 5, v', p', H', D', su W 1 5 0, ?_, ?_, h.ch fW pW (frV _ _ _) (by rw [e1]; exact hv) (by rw [e1]; exact h.lr.u (by omega) (by omega) _) (by rw [e1]; exact h.dr.lo (by omega) (by omega) _) (by rw [e1, upd_n _ _ _ (by omega)]) (by rw [e1, upd_n _ _ _ (by omega)]) W1⟩
  · unfold m_X11_sweep
    rw [er, bd_s, nm_s, nm_s, ev, bd_s, hR.2.1.snow]
  · unfold m_X12_sweep
    rw [nm_s, eW, bd_s, nm_s, nm_s, W1]
theorem rUndo {n : Nat} (hn : 5000 < n) (h : RI v0 v1 v3 v4 v5 v6 v7 v10 v12 v13 v14 v15 v16 v17 V) : ∃ r v' d' p' V', m_X11_undo n v0 v5 v7 v12 v16 v17 = some (r, v', d', p') ∧ m_X12_undo n V = some (r, V') ∧ RI v0 v1 v3 v4 v' v6 d' v10 p' v13 v14 v15 v16 v17 V' := by
  obtain ⟨r, p', v', d', V', e1, hb, e2, -, fV, hp, hr, hd, hl, e12⟩ := undoX hn h.pr h.hr h.dr h.lr
  refine ⟨r, v', d', p', V', ?_, e2, ?_⟩
  · unfold m_X11_undo
    rw [e1, bd_s]
    dsimp only
    rw [if_pos hb]
  · exact ⟨h.tr.eq rfl (fV 8 (by simp)) (by rw [fV 9 (by simp)]), by rw [fV 14 (by simp)]; exact h.wr, by rw [e12]; exact h.tx, h.rd, hr, hl, hd, h.dw, hp, h.im.eq rfl rfl (by rw [fV 6 (by simp)]) (fV 2 (by simp))⟩
theorem cp_lo (s d : Nat → Int32) {k N : Nat} (h : k < N) : cpN s d N k = s k := if_pos h
theorem rImage {n : Nat} (hn : 5000 < n) (h : RI v0 v1 v3 v4 v5 v6 v7 v10 v12 v13 v14 v15 v16 v17 V) : ∃ v0' a b c V', m_X11_image n v0 v5 v6 v7 v13 v14 v15 = some (v0', a, b, c) ∧ m_X12_image n V = some V' ∧ RI v0' v1 v3 v4 v5 v6 v7 v10 v12 a b c v16 v17 V' := by
  obtain ⟨a, ea, ha⟩ := copyHR hn v13 h.hr
  obtain ⟨b, eb, hb⟩ := copyL n v14 h.lr
  obtain ⟨c, ec, hc⟩ := copyD n v15 h.dr
  have e60 : su v0 15 0 1 6 0 = v0 6 0 := by rw [su_n _ _ _ _ (by decide)]
  have f : ∀ f, f ≠ 0 → f ≠ 2 → f ≠ 6 → su (sA (su V 0 0 0) 2 (cpN (V 1) (V 2) 1231)) 6 0 1 f = V f := fun f h0 h2 h6 => by rw [su_n _ _ _ _ h6, sA_n _ _ _ h2, su_n _ _ _ _ h0]
  have e2 : su (sA (su V 0 0 0) 2 (cpN (V 1) (V 2) 1231)) 6 0 1 2 = cpN (V 1) (V 2) 1231 := by rw [su_n _ _ _ _ (by decide), sA_e]
  have e6 : su (sA (su V 0 0 0) 2 (cpN (V 1) (V 2) 1231)) 6 0 1 6 0 = 1 := by rw [su_e, upd_e]
  have g : ∀ f, f ≠ 15 → f ≠ 16 → su (su v0 15 0 1) 16 0 (v0 6 0) f = v0 f := fun f h1 h2 => by rw [su_n _ _ _ _ h2, su_n _ _ _ _ h1]
  have lo : ∀ k, k < 1231 → cpN (V 1) (V 2) 1231 k = V 1 k := fun k hk => cp_lo _ _ hk
  refine ⟨su (su v0 15 0 1) 16 0 (v0 6 0), a, b, c, _, ?_, imageR hn V, ?_⟩
  · unfold m_X11_image
    rw [nm_s, nm_s, e60, ea, bd_s, eb, bd_s, ec, bd_s]
  · generalize su (sA (su V 0 0 0) 2 (cpN (V 1) (V 2) 1231)) 6 0 1 = V' at f e2 e6 ⊢
    have f1 := f 1 (by omega) (by omega) (by omega)
    refine ⟨h.tr.eq (by rw [g 1 (by omega) (by omega)]) (f 8 (by omega) (by omega) (by omega)) (by rw [f 9 (by omega) (by omega) (by omega)]), by rw [g 2 (by omega) (by omega), f 14 (by omega) (by omega) (by omega)]; exact h.wr, by rw [g 6 (by omega) (by omega), f1]; exact h.tx, h.rd, by rw [f1]; exact h.hr, by rw [f1]; exact h.lr, by rw [f1]; exact h.dr, h.dw, h.pr.eq (f 5 (by omega) (by omega) (by omega)) (by rw [f 7 (by omega) (by omega) (by omega)]) (by rw [f1]) (by rw [f1]), .inr ⟨?_, e6, ?_, ?_, ?_, ?_⟩⟩
    · rw [su_n _ _ _ _ (by decide), su_e, upd_e]
    · rw [su_e, upd_e, e2, lo 2 (by omega)]; exact h.tx
    · rw [e2]; exact ha.eq (fun k hk => lo k (by omega))
    · rw [e2]; exact hb.eq (fun k _ hk => lo k hk) (lo 3 (by omega))
    · rw [e2]; exact hc.eq (fun k hk => lo k (by omega))
theorem rBack {n : Nat} (hn : 5000 < n) (h : RI v0 v1 v3 v4 v5 v6 v7 v10 v12 v13 v14 v15 v16 v17 V) : ∃ r v0' a b c p' V', m_X11_back n v0 v5 v6 v7 v12 v13 v14 v15 = some (r, v0', a, b, c, p') ∧ m_X12_back n V = some (r, V') ∧ RI v0' v1 v3 v4 a b c v10 p' v13 v14 v15 v16 v17 V' := by
  unfold m_X11_back
  rw [backkR hn]
  rcases h.im with ⟨i1, i2⟩ | ⟨i1, i2, i3, i4, i5, i6⟩
  · rw [if_pos i1, if_pos i2]
    exact ⟨0, v0, v5, v6, v7, v12, _, rfl, rfl, h.sq (fr0 _ _)⟩
  · rw [if_neg (by rw [i1]; decide), if_neg (by rw [i2]; decide)]
    obtain ⟨a, ea, ha⟩ := copyHR hn v5 i4
    obtain ⟨b, eb, hb⟩ := copyL n v6 i5
    obtain ⟨c, ec, hc⟩ := copyD n v7 i6
    have f : ∀ f, f ≠ 0 → f ≠ 1 → f ≠ 7 → su (sA (su V 0 0 0) 1 (cpN (V 2) (V 1) 1231)) 7 0 0 f = V f := fun f h0 h2 h6 => by rw [su_n _ _ _ _ h6, sA_n _ _ _ h2, su_n _ _ _ _ h0]
    have e1 : su (sA (su V 0 0 0) 1 (cpN (V 2) (V 1) 1231)) 7 0 0 1 = cpN (V 2) (V 1) 1231 := by rw [su_n _ _ _ _ (by decide), sA_e]
    have e7 : su (sA (su V 0 0 0) 1 (cpN (V 2) (V 1) 1231)) 7 0 0 7 0 = 0 := by rw [su_e, upd_e]
    have lo : ∀ k, k < 1231 → cpN (V 2) (V 1) 1231 k = V 2 k := fun k hk => cp_lo _ _ hk
    have g : ∀ f, f ≠ 6 → su v0 6 0 (v0 16 0) f = v0 f := fun f h1 => su_n _ _ _ _ h1
    refine ⟨1, su v0 6 0 (v0 16 0), a, b, c, su v12 0 0 0, _, ?_, rfl, ?_⟩
    · rw [nm_s, ea, bd_s, eb, bd_s, ec, bd_s]
      unfold m_X8_forget
      rw [nm_s, bd_s]
    · generalize su (sA (su V 0 0 0) 1 (cpN (V 2) (V 1) 1231)) 7 0 0 = V' at f e1 e7 ⊢
      refine ⟨h.tr.eq (by rw [g 1 (by omega)]) (f 8 (by omega) (by omega) (by omega)) (by rw [f 9 (by omega) (by omega) (by omega)]), by rw [g 2 (by omega), f 14 (by omega) (by omega) (by omega)]; exact h.wr, ?_, h.rd, by rw [e1]; exact ha.eq (fun k hk => lo k (by omega)), by rw [e1]; exact hb.eq (fun k _ hk => lo k hk) (lo 3 (by omega)), by rw [e1]; exact hc.eq (fun k hk => lo k (by omega)), h.dw, PR.forget _ _ _ ?_ (su00 _ _) e7, h.im.eq (by rw [g 15 (by omega)]) (by rw [g 16 (by omega)]) (by rw [f 6 (by omega) (by omega) (by omega)]) (f 2 (by omega) (by omega) (by omega))⟩
      · rw [su_e, upd_e, e1, lo 2 (by omega)]; exact i3
      · obtain ⟨ff, hf, e⟩ := h.pr.f
        exact ⟨ff, hf, by rw [su_n _ _ _ _ (by decide)]; exact e⟩
theorem rSeed {n : Nat} (h : RI v0 v1 v3 v4 v5 v6 v7 v10 v12 v13 v14 v15 v16 v17 V) (x : Int32) : ∃ r v' V', m_X11_seed n v0 v5 x = some (r, v') ∧ m_X12_seed n V x = some (r, V') ∧ RI v0 v1 v3 v4 v' v6 v7 v10 v12 v13 v14 v15 v16 v17 V' := by
  have e1 : su (su V 0 0 0) 1 11 x 1 = upd (V 1) 11 x := by rw [su_e, su01]
  refine ⟨V 1 11, su v5 8 0 x, su (su V 0 0 0) 1 11 x, ?_, ?_, h.ch ((fr0 _ _).mono (by simp)) (h.pr.eq (V' := su V 0 0 0) (su_n _ _ _ _ (by decide)) (by rw [su_n _ _ _ _ (by decide)]) (by rw [su01]) (by rw [su01])) (frV _ _ _) (by rw [e1]; exact h.hr.seed x) (by rw [e1]; exact h.lr.u (by omega) (by omega) _) (by rw [e1]; exact h.dr.lo (by omega) (by omega) _) (by rw [e1, upd_n _ _ _ (by omega)]) (by rw [e1, upd_n _ _ _ (by omega)]) (su01 _ _)⟩
  · unfold m_X11_seed; rw [nm_s, nm_s, h.hr.2.1.seed]
  · unfold m_X12_seed; rw [nm_s, nm_s, nm_s, su01]
theorem RI.tape (h : RI v0 v1 v3 v4 v5 v6 v7 v10 v12 v13 v14 v15 v16 v17 V) {v0' v1' V' : St} (hv : Fr [1] v0 v0') (hV : Fr [0, 8, 9, 10, 11, 15, 19] V V') (hT : TR v0' v1' V') : RI v0' v1' v3 v4 v5 v6 v7 v10 v12 v13 v14 v15 v16 v17 V' := by
  have e1 : V' 1 = V 1 := hV 1 (by simp)
  exact ⟨hT, by rw [hv 2 (by simp), hV 14 (by simp)]; exact h.wr, by rw [hv 6 (by simp), e1]; exact h.tx, h.rd, by rw [e1]; exact h.hr, by rw [e1]; exact h.lr, by rw [e1]; exact h.dr, h.dw, h.pr.eq (hV 5 (by simp)) (by rw [hV 7 (by simp)]) (by rw [e1]) (by rw [e1]), h.im.eq (by rw [hv 15 (by simp)]) (by rw [hv 16 (by simp)]) (by rw [hV 6 (by simp)]) (hV 2 (by simp))⟩
theorem fed_byte {T : Nat → Int32} (hT : ∀ j, j < 400 → isByte (T j)) (k : Nat) (f : Nat → Int32) : ∀ j, j < 400 → isByte (fedS T k f j) := by
  intro j hj
  unfold fedS
  split
  · exact yb_byte _
  · exact hT j hj
theorem rFeed {n : Nat} (hn : 5000 < n) (h : RI v0 v1 v3 v4 v5 v6 v7 v10 v12 v13 v14 v15 v16 v17 V) (a b c d e : Int32) : ∃ r v0' v1' V', m_X11_feed n v0 v1 a b c d e = some (r, v0', v1') ∧ m_X12_feed n V a b c d e = some (r, V') ∧ RI v0' v1' v3 v4 v5 v6 v7 v10 v12 v13 v14 v15 v16 v17 V' := by
  obtain ⟨k, hk, h1, h9, hb⟩ := h.tr
  by_cases q : k + 20 ≤ 400
  · obtain ⟨⟨r, v0', v1'⟩, ea, ra, g1, fv, gT⟩ := feedX hn q h1 (T := v1) a b c d e
    obtain ⟨⟨r', V'⟩, eb, rb, g9, -, fV, gV⟩ := feedR hn q h9 a b c d e
    dsimp only at ra g1 fv gT rb g9 fV gV
    refine ⟨J (k + 20), v0', v1', V', by rw [ea, ra], by rw [eb, rb], h.tape fv (fV.mono (by simp)) ⟨k + 20, q, g1, g9, fun j hj => ⟨?_, ?_⟩⟩⟩
    · rw [gT, gV]
      unfold fedS
      split
      · rfl
      · exact (hb j hj).1
    · rw [gV]; exact fed_byte (fun j hj => (hb j hj).2) _ _ j hj
  · obtain ⟨e1, e2⟩ := feed_no n (T := v1) q hk h1 h9 a b c d e
    exact ⟨-1, v0, v1, _, e1, e2, h.sq (fr0 _ _)⟩
theorem rEnd {n : Nat} (h : RI v0 v1 v3 v4 v5 v6 v7 v10 v12 v13 v14 v15 v16 v17 V) (x : Int32) : ∃ r v0' V', m_X11_end n v0 x = some (r, v0') ∧ m_X12_end n V x = some (r, V') ∧ RI v0' v1 v3 v4 v5 v6 v7 v10 v12 v13 v14 v15 v16 v17 V' := by
  obtain ⟨k, hk, h1, h9, hb⟩ := h.tr
  unfold m_X11_end m_X12_end
  have e9 : su V 0 0 0 9 = V 9 := su_n _ _ _ _ (by decide)
  rw [nm_s (su V 0 0 0), e9]
  by_cases g : x < 0
  · rw [if_pos g, if_pos g]; exact ⟨0, v0, _, rfl, rfl, h.sq (fr0 _ _)⟩
  · rw [if_neg g, if_neg g, h1, h9]
    by_cases g2 : x ≤ J k
    · rw [if_pos g2, if_pos g2, nm_s, nm_s]
      obtain ⟨j, hj, rfl⟩ := sm3 (x := x) (k := k) (by omega) ⟨by grind, g2⟩
      refine ⟨1, su v0 1 0 (J j), su (su V 0 0 0) 9 0 (J j), rfl, rfl, h.tape ((Fr.rfl _ _).put (by simp) _ _) (((Fr.rfl _ _).put (by simp) _ _).put (by simp) _ _) ⟨j, by omega, by rw [su_e, upd_e], by rw [su_e, upd_e], ?_⟩⟩
      rw [su_n _ _ _ _ (by decide), su_n _ _ _ _ (by decide)]; exact hb
    · rw [if_neg g2, if_neg g2]; exact ⟨0, v0, _, rfl, rfl, h.sq (fr0 _ _)⟩
theorem rFault {n : Nat} (h : RI v0 v1 v3 v4 v5 v6 v7 v10 v12 v13 v14 v15 v16 v17 V) : ∃ r V', m_X11_fault n v0 = some r ∧ m_X12_fault n V = some (r, V') ∧ RI v0 v1 v3 v4 v5 v6 v7 v10 v12 v13 v14 v15 v16 v17 V' := by
  refine ⟨V 14 0, su V 0 0 0, ?_, ?_, h.sq (fr0 _ _)⟩
  · unfold m_X11_fault; rw [h.wr]
  · unfold m_X12_fault; rw [nm_s, su_n _ _ _ _ (by decide)]
theorem rThief {n : Nat} (hn : 5000 < n) (h : RI v0 v1 v3 v4 v5 v6 v7 v10 v12 v13 v14 v15 v16 v17 V) : ∃ r L' V', m_X11_thief n v0 v5 v6 = some (r, L') ∧ m_X12_thief n V = some (r, V') ∧ RI v0 v1 v3 v4 v5 L' v7 v10 v12 v13 v14 v15 v16 v17 V' := by
  obtain ⟨⟨a, L'⟩, ea, fa, ra⟩ := luredX hn h.lr h.hr 0
  obtain ⟨⟨b, V'⟩, eb, fb, rb⟩ := luredR hn (su V 0 0 0) (by rw [su01]; exact h.hr.1) (by rw [su01]; exact h.lr.o) 0
  dsimp only at fa ra fb rb
  rw [su01] at rb
  refine ⟨luredS (V 1) 0, L', V', ?_, ?_, h.q (((fr0 V 0).mono (by simp)).tr (fb.mono (by simp))) fa h.dw⟩
  · unfold m_X11_thief; rw [ea, bd_s, ra]
  · unfold m_X12_thief; rw [nm_s, eb, bd_s, rb]
theorem rLast {n : Nat} (hn : 5000 < n) (s : St) (h : RI v0 v1 v3 v4 v5 v6 v7 v10 v12 v13 v14 v15 v16 v17 V) : ∃ r L' s' V', m_X11_last n v0 v5 v6 s = some (r, L', s') ∧ m_X12_last n V = some (r, V') ∧ RI v0 v1 v3 v4 v5 L' v7 v10 v12 v13 v14 v15 v16 v17 V' := by
  obtain ⟨⟨a, L', s'⟩, ea, ra, fa⟩ := lastX hn h.hr h.lr (v0 := v0) (s := s)
  obtain ⟨⟨b, V'⟩, eb, rb, -, fb⟩ := lastR hn V h.hr.1 h.lr.o
  dsimp only at fa ra fb rb
  exact ⟨_, L', s', V', by rw [ea, ra], by rw [eb, rb], h.q (fb.mono (by simp)) fa h.dw⟩
theorem rPoor {n : Nat} (hn : 5000 < n) (s : St) (h : RI v0 v1 v3 v4 v5 v6 v7 v10 v12 v13 v14 v15 v16 v17 V) : ∃ r L' s' V', m_X11_poor n v0 v5 v6 s = some (r, L', s') ∧ m_X12_poor n V = some (r, V') ∧ RI v0 v1 v3 v4 v5 L' v7 v10 v12 v13 v14 v15 v16 v17 V' := by
  obtain ⟨⟨a, L', s'⟩, ea, ra, fa⟩ := poorX hn h.hr h.lr (v0 := v0) (s := s)
  obtain ⟨⟨b, V'⟩, eb, rb, -, fb⟩ := poorR hn V h.hr.1 h.lr.o
  dsimp only at fa ra fb rb
  exact ⟨_, L', s', V', by rw [ea, ra], by rw [eb, rb], h.q (fb.mono (by simp)) fa h.dw⟩
end PCALL8
