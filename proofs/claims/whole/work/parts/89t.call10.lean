section PCALL10
theorem keep3R {n : Nat} (hn : 5000 < n) (V : St) : lp (fun (rc16 : Int32 × St → Option (St)) (x16l : Int32 × St) =>
(if 1231 ≤ x16l.1 then
some x16l.2
else
(if ix x16l.1 2080 then (if ix x16l.1 1231 then nm (su x16l.2 3 (x16l.1).toNatClampNeg (x16l.2 1 (x16l.1).toNatClampNeg)) (fun u19 =>
rc16 ((x16l.1 + 1), u19)) else none) else none))) n (0, V) = some (sA V 3 (cpN (V 1) (V 3) 1231)) := by
  refine lp_seq (fun k => (J k, sA V 3 (cpN (V 1) (V 3) k))) 1231 (fun rc k hk => ?_) (fun rc => ?_) (by omega) ?_
  · have e : ¬ (1231 : Int32) ≤ J k := by rw [show (1231 : Int32) = J 1231 from rfl, J_le (by omega) (by omega)]; omega
    simp (disch := omega) only [e, ↓reduceIte, ix_J, J_nat, nm_s, J_succ]
    rw [su_sA, sA_n _ _ _ (by decide), cpN_succ]
  · have e : (1231 : Int32) ≤ J 1231 := by decide
    simp only [e, ↓reduceIte]
  · rw [cpN_0, sA_id]; rfl
theorem back3R {n : Nat} (hn : 5000 < n) (V : St) : lp (fun (rc8 : Int32 × St → Option (Int32 × St)) (x8l : Int32 × St) =>
(if 1231 ≤ x8l.1 then
some (0, x8l.2)
else
(if ix x8l.1 1231 then (if ix x8l.1 2080 then nm (su x8l.2 1 (x8l.1).toNatClampNeg (x8l.2 3 (x8l.1).toNatClampNeg)) (fun u11 =>
rc8 ((x8l.1 + 1), u11)) else none) else none))) n (0, V) = some (0, sA V 1 (cpN (V 3) (V 1) 1231)) := by
  refine lp_seq (fun k => (J k, sA V 1 (cpN (V 3) (V 1) k))) 1231 (fun rc k hk => ?_) (fun rc => ?_) (by omega) ?_
  · have e : ¬ (1231 : Int32) ≤ J k := by rw [show (1231 : Int32) = J 1231 from rfl, J_le (by omega) (by omega)]; omega
    simp (disch := omega) only [e, ↓reduceIte, ix_J, J_nat, nm_s, J_succ]
    rw [su_sA, sA_n _ _ _ (by decide), cpN_succ]
  · have e : (1231 : Int32) ≤ J 1231 := by decide
    simp only [e, ↓reduceIte]
  · rw [cpN_0, sA_id]; rfl
/-- the reference before it reads -/
def rdU (V : St) : St := su (usV V) 16 0 0
theorem rdU_f (V : St) : rdU V 0 0 = 0 ∧ rdU V 1 = V 1 ∧ rdU V 8 = V 8 ∧ rdU V 9 0 = 0 ∧ rdU V 11 0 = V 9 0 ∧ rdU V 16 0 = 0 ∧ Fr [0, 9, 10, 11, 16] V (rdU V) ∧ ∃ b, PB (rdU V) 0 b = rdU V := by
  obtain ⟨u0, u1, u8, u9, u11, u10, uf⟩ := usV_f V
  unfold rdU
  obtain ⟨b, hb⟩ := J_sur (su (usV V) 16 0 0 12 0)
  refine ⟨by rw [su_n _ _ _ _ (by decide)]; exact u0, by rw [su_n _ _ _ _ (by decide)]; exact u1, by rw [su_n _ _ _ _ (by decide)]; exact u8, by rw [su_n _ _ _ _ (by decide)]; exact u9, by rw [su_n _ _ _ _ (by decide)]; exact u11, by rw [su_e, upd_e], (uf.mono (by simp)).put (by simp) _ _, b, PB_id _ ?_ hb⟩
  rw [su_n _ _ _ _ (by decide)]; exact u10
section
variable {v0 v1 v3 v4 v5 v6 v7 v10 v12 v13 v14 v15 : St} {v16 v17 : Nat → St} {V : St}
theorem RI.read (h : RI v0 v1 v3 v4 v5 v6 v7 v10 v12 v13 v14 v15 v16 v17 V) {v0' v3' v4' V' : St} (hv : Fr [1, 2] v0 v0') (hv1 : v0' 1 0 = 0) (hw : v0' 2 0 = V' 14 0) (hV : Fr [0, 1, 3, 9, 10, 11, 12, 13, 14, 16] V V') (h9 : V' 9 0 = 0) (h1 : ∀ k, k < 1231 → V' 1 k = V 1 k) (r3 : v3' 1 0 = 14) (r4 : v4' 1 0 = 12) : RI v0' v1 v3' v4' v5 v6 v7 v10 v12 v13 v14 v15 v16 v17 V' := by
  obtain ⟨k, hk, -, -, hb⟩ := h.tr
  refine ⟨⟨0, by omega, hv1, h9, ?_⟩, hw, by rw [hv 6 (by simp), h1 2 (by omega)]; exact h.tx, ⟨r3, r4⟩, h.hr.eq (fun k hk => h1 k (by omega)), h.lr.eq (fun k _ hk => h1 k hk) (h1 3 (by omega)), h.dr.eq (fun k hk => h1 k (by omega)), h.dw, h.pr.eq (hV 5 (by simp)) (by rw [hV 7 (by simp)]) (h1 2 (by omega)) (h1 3 (by omega)), h.im.eq (by rw [hv 15 (by simp)]) (by rw [hv 16 (by simp)]) (by rw [hV 6 (by simp)]) (hV 2 (by simp))⟩
  rw [hV 8 (by simp)]; exact hb
theorem qHill {n : Nat} (hn : 5000 < n) (h : RI v0 v1 v3 v4 v5 v6 v7 v10 v12 v13 v14 v15 v16 v17 V) (v2 v8 : St) (out : Nat → Int64) : QM (m_L_hill n v0 v1 v2 v3 v5 v8 v12 out) (m_X12_hill n V) (fun a => a.2.2.2.2.2.2) (fun a V' => RI a.1 v1 a.2.2.1 v4 a.2.2.2.1 v6 v7 v10 a.2.2.2.2.2.1 v13 v14 v15 v16 v17 V') := by
  obtain ⟨k, hk, h1, h9, hb⟩ := h.tr
  obtain ⟨kt, hkt, t6, t2⟩ := h.tx
  obtain ⟨tok, et, N, hTK⟩ := splitX hn hk (tok := v2) (T := v1) (tp := V 8) (fun j hj => (hb j hj).1) (fun j hj => (hb j hj).2)
  obtain ⟨X, eX, hX⟩ := copyHR hn v8 h.hr
  obtain ⟨u0, u1, u8, u9, u11, u16, uf, b, hPB⟩ := rdU_f (sA V 3 (cpN (V 1) (V 3) 1231))
  have s1 : sA V 3 (cpN (V 1) (V 3) 1231) 1 = V 1 := sA_n _ _ _ (by decide)
  rw [s1] at u1
  rw [sA_n _ _ _ (by decide)] at u8 u11
  have hCX : CXt tok (rdU (sA V 3 (cpN (V 1) (V 3) 1231))) k N := ⟨⟨hk, by rw [u11]; exact h9⟩, by rw [u8]; exact hTK, by rw [u8]; exact fun j hj => (hb j hj).2⟩
  obtain ⟨⟨a, R', X'⟩, ⟨c, V2⟩, ea, ec, hfR, V', p', b', eV, fV, hcase⟩ := readHT hn hCX (R := v3) h.rd.1 (by rw [u1]; exact h.hr.1) (X := X) (by rw [u1]; exact hX.2.1) (b := b)
  dsimp only at hfR eV hcase
  rw [hPB] at ec
  subst eV
  have g0 : ∀ f, f ≠ 1 → f ≠ 2 → ∀ x, su (su v0 1 0 0) 2 0 x f = v0 f := fun f a b x => by rw [su_n _ _ _ _ b, su_n _ _ _ _ a]
  have fv : ∀ x, Fr [1, 2] v0 (su (su v0 1 0 0) 2 0 x) := fun x => ((Fr.rfl _ _).put (by simp) _ _).put (by simp) _ _
  have v1z : ∀ x, su (su v0 1 0 0) 2 0 x 1 0 = 0 := fun x => by rw [su_n _ _ _ _ (by decide), su_e, upd_e]
  have v2z : ∀ x, su (su v0 1 0 0) 2 0 x 2 0 = x := fun x => by rw [su_e, upd_e]
  have r14 : R' 1 0 = 14 := by rw [hfR 1 (by simp)]; exact h.rd.1
  have f3 : V' 3 = cpN (V 1) (V 3) 1231 := by rw [fV 3 (by simp), uf 3 (by simp), sA_e]
  have fA : Fr [0, 1, 3, 9, 10, 11, 12, 13, 14, 16] V V' := ((Fr.rfl _ _).row (by simp) _).tr ((uf.mono (by simp)).tr (fV.mono (by simp)))
  have f9 : V' 9 0 = 0 := by rw [fV 9 (by simp)]; exact u9
  have fB : ∀ x, Fr [0, 1, 3, 9, 10, 11, 12, 13, 14, 16] V (su (PB V' p' b') 14 0 x) := fun x => by
    unfold PB; exact ((fA.put (by simp) _ _).put (by simp) _ _).put (by simp) _ _
  have f0 : ∀ x, su (PB V' p' b') 14 0 x 0 0 = 0 := fun x => by rw [su_n _ _ _ _ (by decide), PB_n _ _ _ (by decide) (by decide), fV 0 (by simp)]; exact u0
  have f14 : ∀ x, su (PB V' p' b') 14 0 x 14 0 = x := fun x => by rw [su_e, upd_e]
  have f91 : ∀ x, su (PB V' p' b') 14 0 x 9 0 = 0 := fun x => by rw [su_n _ _ _ _ (by decide), PB_n _ _ _ (by decide) (by decide)]; exact f9
  have f31 : ∀ x, su (PB V' p' b') 14 0 x 3 = cpN (V 1) (V 3) 1231 := fun x => by rw [su_n _ _ _ _ (by decide), PB_n _ _ _ (by decide) (by decide)]; exact f3
  have f11 : ∀ x, su (PB V' p' b') 14 0 x 1 = V' 1 := fun x => by rw [su_n _ _ _ _ (by decide), PB_n _ _ _ (by decide) (by decide)]
  unfold m_L_hill m_X11_hill m_X12_hill m_X12_readAll
  rw [keep3R hn, bd_s, uses_s, bd_s, nm_s (su (usV (sA V 3 (cpN (V 1) (V 3) 1231))) 16 0 0), show su (usV (sA V 3 (cpN (V 1) (V 3) 1231))) 16 0 0 = rdU (sA V 3 (cpN (V 1) (V 3) 1231)) from rfl, ec, bd_s, useX n h1, bd_s]
  dsimp only
  rw [et, bd_s, eX, bd_s, ea, bd_s]
  dsimp only
  rw [nm_s (su (su v0 1 0 0) 2 0 a), v2z]
  simp only [jn_s]
  -- what is brought back
  have rest : ∀ x y : Int32, y ≠ 0 → a = x → RI (su (su v0 1 0 0) 2 0 a) v1 R' v4 v5 v6 v7 v10 v12 v13 v14 v15 v16 v17 (sA (su (su (PB V' p' b') 14 0 x) 0 0 y) 1 (cpN (su (su (PB V' p' b') 14 0 x) 0 0 y 3) (su (su (PB V' p' b') 14 0 x) 0 0 y 1) 1231)) := by
    intro x y hy hax
    refine h.read (fv a) (v1z a) ?_ (((fB x).put (by simp) _ _).row (by simp) _) ?_ ?_ r14 h.rd.2
    · rw [v2z, sA_n _ _ _ (by decide), su_n _ _ _ _ (by decide), f14, hax]
    · rw [sA_n _ _ _ (by decide), su_n _ _ _ _ (by decide), f91]
    · intro j hj
      rw [sA_e, cp_lo _ _ hj, su_n _ _ _ _ (by decide), f31, cp_lo _ _ hj]
  have z0 : ∀ x y : Int32, sA (su (su (PB V' p' b') 14 0 x) 0 0 y) 1 (cpN (su (su (PB V' p' b') 14 0 x) 0 0 y 3) (su (su (PB V' p' b') 14 0 x) 0 0 y 1) 1231) 0 0 = y := fun x y => by rw [sA_n _ _ _ (by decide), su_e, upd_e]
  rcases hcase with ⟨rfl, ⟨k2, rfl, hk2⟩, hBn, hIn, hc⟩ | ⟨rfl, hb4, rfl⟩
  · have w2 : V' 1 2 = J kt := by rw [hc 2 (by omega), u1]; exact t2
    have k20 : (0 : Int32) ≤ J k2 := by rw [show (0 : Int32) = J 0 from rfl, J_le (by omega) (by omega)]; omega
    rw [if_pos rfl, if_pos k20, bd_s, nm_s (su (PB V' p' b') 14 0 (-1)), if_pos k20, bd_s, show ∀ u, m_X12_throwsIf n u 0 1 = some (0, u) from fun _ => rfl, bd_s, g0 6 (by omega) (by omega), t6]
    dsimp only
    rw [if_pos rfl]
    simp only [f11, w2]
    by_cases q : kt = 12
    · subst q
      rw [if_neg (show ¬ J 12 < 12 by decide), bd_s, sm_r, if_pos (show J 12 = 12 by rfl), bd_s, show ∀ u, m_X12_throwsIf n u 1 2 = some (1, su u 0 0 2) from fun _ => rfl, bd_s]
      dsimp only
      rw [if_neg (show ¬ (1 : Nat) = 0 by decide), if_pos rfl, if_neg (show ¬ ((1 : Int32) = 0) by decide), back3R hn]
      exact QM.thr (z0 _ _) (by decide) (rest (-1) 2 (by decide) rfl)
    · have lt12 : J kt < 12 := by rw [show (12 : Int32) = J 12 from rfl, J_lt (by omega) (by omega)]; omega
      have ne12 : ¬ J kt = 12 := by rw [show (12 : Int32) = J 12 from rfl, J_inj (by omega) (by omega)]; exact q
      obtain ⟨X2, eX2, hX2⟩ := weighH hn hIn hBn
      obtain ⟨X3, eX3, hX3⟩ := copyHR hn v5 hX2
      rw [if_pos lt12, if_neg ne12, bd_s, show ∀ u, m_X12_throwsIf n u 0 2 = some (0, u) from fun _ => rfl, bd_s]
      dsimp only
      rw [if_pos rfl, nm_s, eX2, bd_s, eX3, bd_s]
      unfold m_X8_forget
      rw [nm_s, bd_s, bd_s, sm_l, nm_s, nm_s]
      dsimp only
      have e1 : su (su (su (PB V' p' b') 14 0 (-1)) 1 2 (J kt + 1)) 7 0 0 1 = upd (V' 1) 2 (J (kt + 1)) := by rw [su_n _ _ _ _ (by decide), su_e, f11, J_succ]
      have e1' : su (su (su (PB V' p' b') 14 0 (-1)) 1 2 (J kt + 1)) 7 0 0 1 2 = J (kt + 1) := by rw [e1, upd_e]
      have e6 : su (su (su v0 1 0 0) 2 0 (-1)) 6 0 (J kt + 1) 6 0 = J (kt + 1) := by rw [su_e, upd_e, J_succ]
      rw [show su (PB V' p' b') 14 0 (-1) 1 2 = J kt by rw [f11]; exact w2, e1', e6]
      refine QM.ret ?_ (updL0 out _) ?_
      · rw [su_n _ _ _ _ (by decide), su_n _ _ _ _ (by decide)]; exact f0 _
      · dsimp only
        have lo : ∀ j, (82 ≤ j ∨ j = 3 ∨ j = 10) → upd (V' 1) 2 (J (kt + 1)) j = V 1 j := fun j hj => by rw [upd_n _ _ _ (by omega), hc j (by omega), u1]
        have g : ∀ f, f ∉ [0, 1, 3, 7, 9, 10, 11, 12, 13, 14, 16] → su (su (su (PB V' p' b') 14 0 (-1)) 1 2 (J kt + 1)) 7 0 0 f = V f := fun f hf => by
          rw [su_n _ _ _ _ (fun q => hf (by simp [q])), su_n _ _ _ _ (fun q => hf (by simp [q])), fB (-1) f (fun q => hf (by simp at q ⊢; omega))]
        have g' : ∀ f, f ≠ 1 → f ≠ 2 → f ≠ 6 → su (su (su v0 1 0 0) 2 0 (-1)) 6 0 (J kt + 1) f = v0 f := fun f a b c => by rw [su_n _ _ _ _ c, g0 f a b]
        refine ⟨⟨0, by omega, ?_, ?_, ?_⟩, ?_, ⟨kt + 1, by omega, e6, e1'⟩, ⟨r14, h.rd.2⟩, ?_, ?_, ?_, h.dw, PR.forget _ _ _ ?_ (su00 _ _) (by rw [su_e, upd_e]), h.im.eq (by rw [g' 15 (by omega) (by omega) (by omega)]) (by rw [g' 16 (by omega) (by omega) (by omega)]) (by rw [g 6 (by simp)]) (g 2 (by simp))⟩
        · rw [su_n _ _ _ _ (by decide)]; exact v1z _
        · rw [su_n _ _ _ _ (by decide), su_n _ _ _ _ (by decide)]; exact f91 _
        · rw [g 8 (by simp)]; exact hb
        · rw [su_n _ _ _ _ (by decide), v2z, su_n _ _ _ _ (by decide), su_n _ _ _ _ (by decide), f14]
        · rw [e1]; exact hX3.txt _
        · rw [e1]; exact h.lr.eq (fun j a b => lo j (by omega)) (lo 3 (by omega))
        · rw [e1]; exact h.dr.eq' (lo 10 (by omega)) (fun j a b => lo j (by omega))
        · obtain ⟨ff, hff, e⟩ := h.pr.f
          exact ⟨ff, hff, by rw [su_n _ _ _ _ (by decide)]; exact e⟩
  · rw [if_neg (show ¬ J b' = -1 from J_ne_neg (by omega)), bd_s, sm_r]
    dsimp only
    rw [if_pos rfl, if_neg (show ¬ (0 : Int32) ≤ -1 by decide), bd_s, nm_s, PB_b, if_neg (show ¬ (0 : Int32) ≤ -1 by decide), bd_s, show ∀ u, m_X12_throwsIf n u 1 1 = some (1, su u 0 0 1) from fun _ => rfl, bd_s]
    dsimp only
    rw [if_neg (show ¬ ((1 : Int32) = 0) by decide), back3R hn]
    exact QM.thr (z0 _ _) (by decide) (rest (J b') 1 (by decide) rfl)
end
end PCALL10
