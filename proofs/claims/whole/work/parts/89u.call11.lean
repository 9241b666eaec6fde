section PCALL11
def mvN (x : Nat → Int32) (k : Nat) : Nat → Int32 := fun j => if 382 ≤ j ∧ j < 382 + k then x (j + 849) else x j
theorem mvN_0 (x : Nat → Int32) : mvN x 0 = x := by funext j; unfold mvN; rw [if_neg (by omega)]
theorem mvN_hi (x : Nat → Int32) {k j : Nat} (h : 382 + k ≤ j) : mvN x k j = x j := if_neg (by omega)
theorem mvN_succ (x : Nat → Int32) (k : Nat) : upd (mvN x k) (382 + k) (x (1231 + k)) = mvN x (k + 1) := by
  funext j
  by_cases h : j = 382 + k
  · subst h; rw [upd_e]; unfold mvN; rw [if_pos (by omega), show 382 + k + 849 = 1231 + k from by omega]
  · rw [upd_n _ _ _ h]; unfold mvN
    by_cases g : 382 ≤ j ∧ j < 382 + k
    · rw [if_pos g, if_pos (by omega)]
    · rw [if_neg g, if_neg (by omega)]
theorem moveR {n : Nat} (hn : 5000 < n) (V : St) : lp (fun (rc10 : Int32 × St → Option (St)) (x10l : Int32 × St) =>
(if 849 ≤ x10l.1 then
some x10l.2
else
(if ix (1231 + x10l.1) 2080 then (if ix (382 + x10l.1) 2080 then nm (su x10l.2 1 ((382 + x10l.1)).toNatClampNeg (x10l.2 1 ((1231 + x10l.1)).toNatClampNeg)) (fun u13 =>
rc10 ((x10l.1 + 1), u13)) else none) else none))) n (0, V) = some (sA V 1 (mvN (V 1) 849)) := by
  refine lp_seq (fun k => (J k, sA V 1 (mvN (V 1) k))) 849 (fun rc k hk => ?_) (fun rc => ?_) (by omega) ?_
  · have e : ¬ (849 : Int32) ≤ J k := by rw [show (849 : Int32) = J 849 from rfl, J_le (by omega) (by omega)]; omega
    have e1 : 1231 + J k = J (1231 + k) := by rw [show (1231 : Int32) = J 1231 from rfl, J_add]
    have e2 : 382 + J k = J (382 + k) := by rw [show (382 : Int32) = J 382 from rfl, J_add]
    simp (disch := omega) only [e, e1, e2, ↓reduceIte, ix_J, J_nat, nm_s, J_succ k]
    rw [su_sA, sA_e, mvN_hi _ (by omega), mvN_succ]
  · have e : (849 : Int32) ≤ J 849 := by decide
    simp only [e, ↓reduceIte]
  · rw [mvN_0, sA_id]; rfl
/-- a law that was read, where it lies in the end -/
theorem KL.lr {L V : St} {ln s : Nat} (h : KL L V ln s) (hln : ln ≤ 12) (hs : s ≤ 400) {w : Nat → Int32} (hw : ∀ k, 382 < k → k < 1231 → w k = sh V k) (w3 : w 3 = 1) (w0 : w 382 = J ln) : LR L w ∧ nL w = ln := by
  obtain ⟨⟨d1, d2, d3⟩, l0, -, h4⟩ := h
  have en : nL w = ln := by unfold nL; rw [w0, J_nat (by omega)]
  have et : ∀ l, l < 12 → lt w l = lt (sh V) l := fun l hl => by unfold lt; rw [hw _ (by omega) (by omega)]
  have key : ∀ l, l < ln → LL w l ∧ lf w l = lf (sh V) l ∧ lt w l = lt (sh V) l := fun l hl => by
    obtain ⟨b1, b2, b3, b4, b5, b6, b7⟩ := h4 l hl
    exact b1.eq2 b7 (fun k k1 k2 => hw k (by omega) (by omega)) (fun k k1 k2 => hw k (by omega) (by omega))
  refine ⟨.inr ⟨w3, ⟨by rw [en]; exact w0, by rw [en]; exact hln, fun l hl => ?_⟩, by rw [en]; exact l0, fun l hl => ?_⟩, en⟩
  · rw [en] at hl
    obtain ⟨b1, b2, b3, b4, b5, b6, b7⟩ := h4 l hl
    obtain ⟨c1, c2, c3⟩ := key l hl
    refine ⟨c1, ?_, ?_⟩
    · rw [c2, b2]; exact (frS_eq2 (fun j hj => et j (by omega))).symm
    · rw [hw _ (by omega) (by omega)]; exact b3
  · rw [en] at hl
    obtain ⟨b1, b2, b3, b4, b5, b6, b7⟩ := h4 l hl
    obtain ⟨c1, c2, c3⟩ := key l hl
    refine ⟨by rw [hw _ (by omega) (by omega)]; exact b4, by rw [hw _ (by omega) (by omega)]; exact b5, by rw [c3]; exact b6, fun i i1 i2 => ?_⟩
    rw [c3] at i2
    obtain ⟨o, o1, o2, o3, o4⟩ := d3 i (by omega)
    have e1 : lg w i = o := by unfold lg; rw [hw _ (by omega) (by omega)]; show (V 1 (431 + 2 * i + 849)).toNatClampNeg = o; rw [show 431 + 2 * i + 849 = 1280 + 2 * i from by omega, o1, J_nat (by omega)]
    have e2 : la w i = V 1 (1281 + 2 * i) := by unfold la; rw [hw _ (by omega) (by omega)]; show V 1 (432 + 2 * i + 849) = _; rw [show 432 + 2 * i + 849 = 1281 + 2 * i from by omega]
    rw [e1, e2]; exact o4
variable {v0 v1 v3 v4 v5 v6 v7 v10 v12 v13 v14 v15 : St} {v16 v17 : Nat → St} {V : St}
theorem qLaw {n : Nat} (hn : 5000 < n) (h : RI v0 v1 v3 v4 v5 v6 v7 v10 v12 v13 v14 v15 v16 v17 V) (v2 v9 : St) (out : Nat → Int64) : QM (m_L_law n v0 v1 v2 v4 v6 v9 v12 out) (m_X12_law n V) (fun a => a.2.2.2.2.2.2) (fun a V' => RI a.1 v1 v3 a.2.2.1 v5 a.2.2.2.1 v7 v10 a.2.2.2.2.2.1 v13 v14 v15 v16 v17 V') := by
  obtain ⟨k, hk, h1, h9, hb⟩ := h.tr
  obtain ⟨tok, et, N, hTK⟩ := splitX hn hk (tok := v2) (T := v1) (tp := V 8) (fun j hj => (hb j hj).1) (fun j hj => (hb j hj).2)
  obtain ⟨u0, u1, u8, u9, u11, u16, uf, b, hPB⟩ := rdU_f V
  have hCX : CXt tok (rdU V) k N := ⟨⟨hk, by rw [u11]; exact h9⟩, by rw [u8]; exact hTK, by rw [u8]; exact fun j hj => (hb j hj).2⟩
  have ecl : m_X5_clear n v9 = some (su (su v9 0 0 0) 5 0 0) := by unfold m_X5_clear; rw [nm_s, nm_s]
  have hK0 : KL (su (su v9 0 0 0) 5 0 0) (rdU V) 0 0 := by
    refine ⟨⟨by rw [su_e, upd_e]; rfl, by rw [u16]; rfl, fun i hi => absurd hi (by omega)⟩, ?_, rfl, fun l hl => absurd hl (by omega)⟩
    rw [su_n _ _ _ _ (by decide), su_e, upd_e]; rfl
  obtain ⟨⟨a, R', X'⟩, ⟨c, V2⟩, ea, ec, hfR, V', p', b', eV, fV, hc, hcase⟩ := readLT hn hCX (R := v4) h.rd.2 hK0 (b := b)
  dsimp only at hfR eV hcase
  rw [hPB] at ec
  subst eV
  have g0 : ∀ f, f ≠ 1 → f ≠ 2 → ∀ x, su (su v0 1 0 0) 2 0 x f = v0 f := fun f a b x => by rw [su_n _ _ _ _ b, su_n _ _ _ _ a]
  have fv : ∀ x, Fr [1, 2] v0 (su (su v0 1 0 0) 2 0 x) := fun x => ((Fr.rfl _ _).put (by simp) _ _).put (by simp) _ _
  have v1z : ∀ x, su (su v0 1 0 0) 2 0 x 1 0 = 0 := fun x => by rw [su_n _ _ _ _ (by decide), su_e, upd_e]
  have v2z : ∀ x, su (su v0 1 0 0) 2 0 x 2 0 = x := fun x => by rw [su_e, upd_e]
  have r12 : R' 1 0 = 12 := by rw [hfR 1 (by simp)]; exact h.rd.2
  have fA : Fr [0, 1, 3, 9, 10, 11, 12, 13, 14, 16] V V' := (uf.mono (by simp)).tr (fV.mono (by simp))
  have f9 : V' 9 0 = 0 := by rw [fV 9 (by simp)]; exact u9
  have fB : ∀ x, Fr [0, 1, 3, 9, 10, 11, 12, 13, 14, 16] V (su (PB V' p' b') 14 0 x) := fun x => by
    unfold PB; exact ((fA.put (by simp) _ _).put (by simp) _ _).put (by simp) _ _
  have f0 : ∀ x, su (PB V' p' b') 14 0 x 0 0 = 0 := fun x => by rw [su_n _ _ _ _ (by decide), PB_n _ _ _ (by decide) (by decide), fV 0 (by simp)]; exact u0
  have f14 : ∀ x, su (PB V' p' b') 14 0 x 14 0 = x := fun x => by rw [su_e, upd_e]
  have f91 : ∀ x, su (PB V' p' b') 14 0 x 9 0 = 0 := fun x => by rw [su_n _ _ _ _ (by decide), PB_n _ _ _ (by decide) (by decide)]; exact f9
  have f11 : ∀ x, su (PB V' p' b') 14 0 x 1 = V' 1 := fun x => by rw [su_n _ _ _ _ (by decide), PB_n _ _ _ (by decide) (by decide)]
  unfold m_L_law m_X11_law m_X12_law m_X12_readAll
  rw [uses_s, bd_s, nm_s (su (usV V) 16 0 0), show su (usV V) 16 0 0 = rdU V from rfl, ec, bd_s, useX n h1, bd_s]
  dsimp only
  rw [et, bd_s, ecl, bd_s, ea, bd_s]
  dsimp only
  rw [nm_s (su (su v0 1 0 0) 2 0 a), v2z]
  rcases hcase with ⟨rfl, ln, s, hln, hs, rfl, hKL⟩ | ⟨rfl, hb4, rfl⟩
  · have k20 : (0 : Int32) ≤ J ln := by rw [show (0 : Int32) = J 0 from rfl, J_le (by omega) (by omega)]; omega
    rw [if_pos rfl, if_pos k20, bd_s, nm_s (su (PB V' p' b') 14 0 (-1)), if_pos k20, bd_s, show ∀ u, m_X12_throwsIf n u 0 1 = some (0, u) from fun _ => rfl, bd_s]
    dsimp only
    rw [if_pos rfl, nm_s (su (su (PB V' p' b') 14 0 (-1)) 1 1231 (J ln)), moveR hn, bd_s, nm_s, nm_s]
    have m1 : su (su (PB V' p' b') 14 0 (-1)) 1 1231 (J ln) 1 = upd (V' 1) 1231 (J ln) := by rw [su_e, f11]
    rw [m1]
    have e1 : su (su (sA (su (su (PB V' p' b') 14 0 (-1)) 1 1231 (J ln)) 1 (mvN (upd (V' 1) 1231 (J ln)) 849)) 1 3 1) 7 0 0 1 = upd (mvN (upd (V' 1) 1231 (J ln)) 849) 3 1 := by rw [su_n _ _ _ _ (by decide), su_e, sA_e]
    have w3 : upd (mvN (upd (V' 1) 1231 (J ln)) 849) 3 1 3 = 1 := upd_e _ _ _
    have w382 : upd (mvN (upd (V' 1) 1231 (J ln)) 849) 3 1 382 = J ln := by
      rw [upd_n _ _ _ (by omega)]; unfold mvN; rw [if_pos (by omega), show 382 + 849 = 1231 from rfl, upd_e]
    have whi : ∀ j, 382 < j → j < 1231 → upd (mvN (upd (V' 1) 1231 (J ln)) 849) 3 1 j = sh V' j := fun j a b => by
      rw [upd_n _ _ _ (by omega)]; unfold mvN sh; rw [if_pos (by omega), upd_n _ _ _ (by omega)]
    have wlo : ∀ j, j < 382 → j ≠ 3 → upd (mvN (upd (V' 1) 1231 (J ln)) 849) 3 1 j = V 1 j := fun j a b => by
      rw [upd_n _ _ _ b]; unfold mvN; rw [if_neg (by omega), upd_n _ _ _ (by omega), hc j (by omega), u1]
    obtain ⟨hLR, hnL⟩ := hKL.lr hln hs whi w3 w382
    obtain ⟨X3, eX3, hX3⟩ := copyL n v6 hLR
    have x0 : X3 0 0 = J ln := by
      rcases hX3 with ⟨g, -⟩ | ⟨-, -, g, -⟩
      · rw [w3] at g; exact absurd g (by decide)
      · rw [g, hnL]
    rw [eX3, bd_s]
    unfold m_X8_forget
    rw [nm_s, bd_s, bd_s, sm_l]
    dsimp only
    rw [x0]
    have g : ∀ f, f ∉ [0, 1, 3, 7, 9, 10, 11, 12, 13, 14, 16] → su (su (sA (su (su (PB V' p' b') 14 0 (-1)) 1 1231 (J ln)) 1 (mvN (upd (V' 1) 1231 (J ln)) 849)) 1 3 1) 7 0 0 f = V f := fun f hf => by
      rw [su_n _ _ _ _ (fun q => hf (by simp [q])), su_n _ _ _ _ (fun q => hf (by simp [q])), sA_n _ _ _ (fun q => hf (by simp [q])), su_n _ _ _ _ (fun q => hf (by simp [q])), fB (-1) f (fun q => hf (by simp at q ⊢; omega))]
    have gg : ∀ f, f ≠ 1 → f ≠ 7 → su (su (sA (su (su (PB V' p' b') 14 0 (-1)) 1 1231 (J ln)) 1 (mvN (upd (V' 1) 1231 (J ln)) 849)) 1 3 1) 7 0 0 f = su (PB V' p' b') 14 0 (-1) f := fun f a b => by
      rw [su_n _ _ _ _ b, su_n _ _ _ _ a, sA_n _ _ _ a, su_n _ _ _ _ a]
    have e7 : su (su (sA (su (su (PB V' p' b') 14 0 (-1)) 1 1231 (J ln)) 1 (mvN (upd (V' 1) 1231 (J ln)) 849)) 1 3 1) 7 0 0 7 0 = 0 := by rw [su_e, upd_e]
    generalize su (su (sA (su (su (PB V' p' b') 14 0 (-1)) 1 1231 (J ln)) 1 (mvN (upd (V' 1) 1231 (J ln)) 849)) 1 3 1) 7 0 0 = VV at e1 g gg e7 ⊢
    refine QM.ret (by rw [gg 0 (by omega) (by omega)]; exact f0 _) (updL0 out _) ?_
    dsimp only
    have hHR : HR v5 (upd (mvN (upd (V' 1) 1231 (J ln)) 849) 3 1) := by
      have hI := h.hr.1
      have hB := h.hr.2.1
      have h5 := hI.p5
      have h10 := hI.t10
      have e : ∀ k, k < 82 → k ≠ 3 → upd (mvN (upd (V' 1) 1231 (J ln)) 849) 3 1 k = V 1 k := fun k a b => wlo k (by omega) b
      generalize upd (mvN (upd (V' 1) 1231 (J ln)) 849) 3 1 = w at e
      have eP : nP w = nP (V 1) := by unfold nP; rw [e 0 (by omega) (by omega)]
      have eT : nT w = nT (V 1) := by unfold nT; rw [e 1 (by omega) (by omega)]
      have wg : ∀ x, wgI w x = wgI (V 1) x := fun x => by
        unfold wgI
        rw [eT]
        exact foldN_congr (fun t a ht => by rw [e _ (by omega) (by omega), e _ (by omega) (by omega)])
      have ld : ∀ q, q < 10 → loadS w q = loadS (V 1) q := fun q hq => by unfold loadS; rw [wg, e _ (by omega) (by omega), e _ (by omega) (by omega)]
      have ti : ∀ p, p < 5 → tiltS w p = tiltS (V 1) p := fun p hp => by unfold tiltS; rw [ld _ (by omega), ld _ (by omega), e _ (by omega) (by omega), e _ (by omega) (by omega)]
      have he : ∀ q, q < 10 → heightS w q = heightS (V 1) q := fun q hq => by unfold heightS; rw [ti _ (by omega), e _ (by omega) (by omega)]
      refine ⟨?_, ?_, ?_⟩
      · unfold WInv
        rw [eP, eT, e 0 (by omega) (by omega), e 1 (by omega) (by omega), e 6 (by omega) (by omega), e 5 (by omega) (by omega)]
        refine ⟨hI.1, hI.2.1, hI.2.2.1, hI.2.2.2.1, fun p hp => ?_, fun q hq => ?_, fun t ht => ?_⟩
        · rw [e _ (by omega) (by omega), e _ (by omega) (by omega), e _ (by omega) (by omega), e _ (by omega) (by omega)]; exact hI.pl hp
        · rw [e _ (by omega) (by omega)]; exact hI.ho hq
        · rw [e _ (by omega) (by omega), e _ (by omega) (by omega), e _ (by omega) (by omega)]; exact hI.th ht
      · unfold HB
        rw [eP, eT, e 0 (by omega) (by omega), e 1 (by omega) (by omega), e 5 (by omega) (by omega), e 6 (by omega) (by omega), e 7 (by omega) (by omega), e 8 (by omega) (by omega), e 9 (by omega) (by omega), e 4 (by omega) (by omega), e 11 (by omega) (by omega)]
        refine ⟨hB.p, hB.t, hB.snow, hB.step, hB.fall, hB.thieves, hB.fee, hB.week, hB.seed, fun p hp => ?_, fun q hq => ?_, fun t ht => ?_⟩
        · rw [e _ (by omega) (by omega), e _ (by omega) (by omega), e _ (by omega) (by omega), e _ (by omega) (by omega)]; exact ⟨hB.bears hp, hB.age hp, hB.prop hp, hB.broken hp⟩
        · rw [e _ (by omega) (by omega), e _ (by omega) (by omega)]; exact ⟨hB.purse hq, hB.guests hq⟩
        · rw [e _ (by omega) (by omega), e _ (by omega) (by omega), e _ (by omega) (by omega)]; exact ⟨hB.weight ht, hB.worth ht, hB.home ht⟩
      · intro q hq
        rw [eP] at hq
        rw [ld q (by omega), he q (by omega)]; exact h.hr.2.2 q hq
    refine ⟨⟨0, by omega, v1z _, ?_, ?_⟩, ?_, ?_, ⟨h.rd.1, r12⟩, by rw [e1]; exact hHR, by rw [e1]; exact hX3, ?_, h.dw, PR.forget _ _ _ ?_ (su00 _ _) e7, h.im.eq (by rw [g0 15 (by omega) (by omega)]) (by rw [g0 16 (by omega) (by omega)]) (by rw [g 6 (by simp)]) (g 2 (by simp))⟩
    · rw [gg 9 (by omega) (by omega)]; exact f91 _
    · rw [g 8 (by simp)]; exact hb
    · rw [v2z, gg 14 (by omega) (by omega), f14]
    · rw [g0 6 (by omega) (by omega), e1, wlo 2 (by omega) (by omega)]; exact h.tx
    · rw [e1]; exact h.dr.eq' (wlo 10 (by omega) (by omega)) (fun j a b => wlo j (by omega) (by omega))
    · obtain ⟨ff, hff, e⟩ := h.pr.f
      exact ⟨ff, hff, by rw [su_n _ _ _ _ (by decide)]; exact e⟩
  · rw [if_neg (show ¬ J b' = -1 from J_ne_neg (by omega)), bd_s, sm_r]
    dsimp only
    rw [if_pos rfl, if_neg (show ¬ (0 : Int32) ≤ -1 by decide), bd_s, nm_s, PB_b, if_neg (show ¬ (0 : Int32) ≤ -1 by decide), bd_s, show ∀ u, m_X12_throwsIf n u 1 1 = some (1, su u 0 0 1) from fun _ => rfl, bd_s]
    dsimp only
    rw [if_neg (show ¬ ((1 : Int32) = 0) by decide)]
    refine QM.thr (su00 _ _) (by decide) (h.read (fv (J b')) (v1z (J b')) ?_ ((fB (J b')).put (by simp) _ _) ?_ ?_ h.rd.1 r12)
    · dsimp only
      rw [v2z, su_n _ _ _ _ (by decide), f14]
    · rw [su_n _ _ _ _ (by decide), f91]
    · intro j hj
      rw [su_n _ _ _ _ (by decide), f11, hc j (by omega), u1]
end PCALL11
