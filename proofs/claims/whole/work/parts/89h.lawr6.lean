section PLAWR6
/-- the reference's cells of a line, and the depth -/
def lnV (V : St) (ln s : Nat) (k a : Int32) : St := su (su (su (su V 1 (1232 + 4 * ln) k) 1 (1233 + 4 * ln) a) 1 (1234 + 4 * ln) (J s)) 13 0 0
theorem lnV_fr (V : St) (ln s : Nat) (k a : Int32) : Fr [1, 13] V (lnV V ln s k a) := by
  unfold lnV; exact ((((Fr.rfl _ _).put (by simp) _ _).put (by simp) _ _).put (by simp) _ _).put (by simp) _ _
theorem lnV_c (V : St) (ln s : Nat) (k a : Int32) : lnV V ln s k a 1 (1232 + 4 * ln) = k ∧ lnV V ln s k a 1 (1233 + 4 * ln) = a ∧ lnV V ln s k a 1 (1234 + 4 * ln) = J s ∧ (∀ j, (j < 1232 + 4 * ln ∨ 1235 + 4 * ln ≤ j) → lnV V ln s k a 1 j = V 1 j) ∧ lnV V ln s k a 13 0 = 0 := by
  unfold lnV
  refine ⟨?_, ?_, ?_, fun j hj => ?_, by rw [su_e, upd_e]⟩
  · rw [su_n _ _ _ _ (by decide), su_e, upd_n _ _ _ (by omega), su_e, upd_n _ _ _ (by omega), su_e, upd_e]
  · rw [su_n _ _ _ _ (by decide), su_e, upd_n _ _ _ (by omega), su_e, upd_e]
  · rw [su_n _ _ _ _ (by decide), su_e, upd_e]
  · rw [su_n _ _ _ _ (by decide), su_e, upd_n _ _ _ (by omega), su_e, upd_n _ _ _ (by omega), su_e, upd_n _ _ _ (by omega)]
theorem Fr.sub {S S' : List Nat} {a b : St} (h : Fr S a b) (hs : ∀ x, x ∈ S → x ∈ S') : Fr S' a b := fun f hf => h f (fun g => hf (hs f g))
/-- a line behind its first word -/
theorem lineK {n : Nat} (hn : 5000 < n) {tok R V L : St} {len N : Nat} (h : CXt tok V len N) {t s ln : Nat} (hK : KL L V ln s) (hln : ln < 12) (hst : s ≤ t) (htN : t < N) {p b : Nat} (hp : JC V len p (t + 1)) {kc k : Int32} (hkc : kindC k = kc) (hk : k = 0 ∨ k = 1 ∨ k = 2) :
    Ok2 (nm (su (RT R t) 2 0 ((RT R t 2 0) + 1)) (fun u3 =>
bd (m_X9_number_X6 n u3 tok L 0 60) (fun t4 =>
(if t4.1 = (-1) then
some (0, t4.2, L)
else
bd (m_X9_skip_X6 n t4.2 tok L 314) (fun t5 =>
(if t5.1 = 0 then
bd (m_X5_addLine n L kc t4.1) (fun t7 =>
some (1, t5.2, t7))
else
bd (m_X6_readAny n t5.2 tok L 0) (fun t8 =>
(if t8.1 = 0 then
some (0, t8.2.1, t8.2.2)
else
bd (m_X5_addLine n t8.2.2 kc t4.1) (fun t7 =>
some (1, t8.2.1, t7))))))))))
    ((if ix (J (1232 + 4 * ln)) 2080 then nm (su (PB V p b) 1 (J (1232 + 4 * ln)).toNatClampNeg k) (fun u5 =>
(if ix (J (1232 + 4 * ln)) 2080 then (if 0 ≤ (u5 1 (J (1232 + 4 * ln)).toNatClampNeg) then
bd (m_X12_number n u5 0 60) (fun t7 =>
(if ix (J (1232 + 4 * ln) + 1) 2080 then nm (su t7.2 1 ((J (1232 + 4 * ln) + 1)).toNatClampNeg t7.1) (fun u9 =>
(if ix (J (1232 + 4 * ln) + 1) 2080 then (if 0 ≤ (u9 1 ((J (1232 + 4 * ln) + 1)).toNatClampNeg) then
(if ix (J (1232 + 4 * ln) + 2) 2080 then nm (su u9 1 ((J (1232 + 4 * ln) + 2)).toNatClampNeg (u9 16 0)) (fun u12 =>
nm (su u12 13 0 0) (fun u13 =>
bd (m_X12_passes n u13 25) (fun t14 =>
(if t14.1 = 0 then
(if ix (J (1232 + 4 * ln) + 3) 2080 then nm (su t14.2 1 ((J (1232 + 4 * ln) + 3)).toNatClampNeg (t14.2 16 0)) (fun u17 =>
some (1, u17)) else none)
else
bd (m_X12_readCond n t14.2) (fun t18 =>
(if t18.1 = 0 then
some (0, t18.2)
else
(if ix (J (1232 + 4 * ln) + 3) 2080 then nm (su t18.2 1 ((J (1232 + 4 * ln) + 3)).toNatClampNeg (t18.2 16 0)) (fun u17 =>
some (1, u17)) else none))))))) else none)
else
some (0, u9)) else none)) else none))
else
some (0, u5)) else none)) else none)) (QL R V L len N t ln) := by
  have hl := h.1.1
  have hN : N ≤ len := h.2.1.1
  obtain ⟨a0, a1, a2, a3⟩ := lawAt ln
  have hLD := hK.1
  have h16 : V 16 0 = J s := hLD.2.1
  have ix0 : ix (J (1232 + 4 * ln)) 2080 := J_ix (by omega) (by omega)
  have ix1 : ix (J (1233 + 4 * ln)) 2080 := J_ix (by omega) (by omega)
  have ix2 : ix (J (1234 + 4 * ln)) 2080 := J_ix (by omega) (by omega)
  have ix3 : ix (J (1235 + 4 * ln)) 2080 := J_ix (by omega) (by omega)
  have hk0 : (0 : Int32) ≤ k := by rcases hk with rfl | rfl | rfl <;> decide
  have ek : PB (su V 1 (1232 + 4 * ln) k) p b 1 (1232 + 4 * ln) = k := by rw [PB_n _ _ _ (by decide) (by decide), su_e, upd_e]
  rw [nm_s, RT_at, J_succ, RT_RT, num6 n hl h.2.1 (by omega), bd_s]
  simp only [a1, a2, a3, J_nat (k := 1232 + 4 * ln) (by omega), J_nat (k := 1233 + 4 * ln) (by omega), J_nat (k := 1234 + 4 * ln) (by omega), J_nat (k := 1235 + 4 * ln) (by omega)]
  rw [if_pos ix0, nm_s, if_pos ix0, su_PB _ _ _ (by decide) (by decide), ek, if_pos hk0]
  have h1 : CXt tok (su V 1 (1232 + 4 * ln) k) len N := h.eq (su_n _ _ _ _ (by decide)) (by rw [su_n _ _ _ _ (by decide)])
  have e8 : (su V 1 (1232 + 4 * ln) k) 8 = V 8 := su_n _ _ _ _ (by decide)
  have hp1 : JC (su V 1 (1232 + 4 * ln) k) len p (t + 1) := hp.eq e8
  rcases numberT hn h1 (t := t + 1) (by omega) hp1 (b := b) 0 60 with ⟨q, q1, p', q2, e⟩ | ⟨q, p', e⟩
  · rw [e8] at q e
    rw [if_pos q, e, bd_s]
    dsimp only
    have hr := vl_rng hl h.2.2 (stt_le (V 8) len (t + 1)) (a := 0) (b := 60) (by omega) (by omega) q
    generalize vl (V 8) len (st (V 8) len (t + 1)) = a at hr ⊢
    obtain ⟨ka, rfl, -, hka⟩ := id hr
    have ea : PB (su (su V 1 (1232 + 4 * ln) k) 1 (1233 + 4 * ln) (J ka)) p' (st (V 8) len (t + 1)) 1 (1233 + 4 * ln) = J ka := by rw [PB_n _ _ _ (by decide) (by decide), su_e, upd_e]
    have e16 : PB (su (su V 1 (1232 + 4 * ln) k) 1 (1233 + 4 * ln) (J ka)) p' (st (V 8) len (t + 1)) 16 0 = J s := by rw [PB_n _ _ _ (by decide) (by decide), su_n _ _ _ _ (by decide), su_n _ _ _ _ (by decide)]; exact h16
    rw [if_neg (J_ne_neg (by omega)), if_pos ix1, nm_s, if_pos ix1, su_PB _ _ _ (by decide) (by decide), ea, if_pos (by have := J_nn (k := ka) (by omega); grind), if_pos ix2, nm_s, e16, nm_s, su_PB _ _ _ (by decide) (by decide), su_PB _ _ _ (by decide) (by decide)]
    rw [show su (su (su (su V 1 (1232 + 4 * ln) k) 1 (1233 + 4 * ln) (J ka)) 1 (1234 + 4 * ln) (J s)) 13 0 0 = lnV V ln s k (J ka) from rfl]
    obtain ⟨v0, v1, v2, v3, v13⟩ := lnV_c V ln s k (J ka)
    have vf := lnV_fr V ln s k (J ka)
    generalize lnV V ln s k (J ka) = W at v0 v1 v2 v3 v13 vf ⊢
    have w8 : W 8 = V 8 := vf 8 (by simp)
    have hW : CXt tok W len N := h.eq w8 (by rw [vf 11 (by simp)])
    have hWD : LD L W s := hLD.low (vf 16 (by simp)) (fun k hk => v3 k (by omega))
    have hjW : JC W len p' (t + 1 + 1) := q2.eq (by rw [w8, e8])
    rw [skip6 n hl h.2.1 (by omega), bd_s]
    have h00 := hK.2.1
    rcases passT hn hW (t := t + 1 + 1) (by omega) hjW (b := st (V 8) len (t + 1)) (s := 25) (by omega) (by omega) with ⟨r, r2, p2, r3, e⟩ | ⟨r, e⟩
    · rw [w8] at r e
      have r' : cd (V 8) len (st (V 8) len (t + 1 + 1)) = 314 := r
      rw [e, bd_s, if_pos r']
      dsimp only
      rw [if_neg (show ¬ ((1 : Int32) = 0) by decide), if_neg (show ¬ ((1 : Int32) = 0) by decide)]
      refine ok2_bd (condT hn W L (t + 1 + 1 + 1) s p2 (st (V 8) len (t + 1 + 1)) hW (by omega) (by omega) hWD v13 r3) ?_
      rintro x y (⟨t1, p1, b1, V1, L1, s1, rfl, rfl, hS⟩ | ⟨t1, p1, V1, L1, rfl, rfl, g1, g2, g3⟩)
      · dsimp only
        obtain ⟨z1, z2, z3, z4, z5, z6, z7, z8, z9, z10⟩ := hS
        have l0 : L1 0 0 = J ln := by rw [z5.1 0 (by simp)]; exact h00
        have e16' : PB V1 p1 b1 16 0 = J s1 := by rw [PB_n _ _ _ (by decide) (by decide)]; exact z6.2.1
        rw [if_neg (show ¬ ((1 : Int32) = 0) by decide), if_neg (show ¬ ((1 : Int32) = 0) by decide), addLX n hln l0 z6.1, bd_s, if_pos ix3, nm_s, e16', su_PB _ _ _ (by decide) (by decide)]
        obtain ⟨y0, y1, y2, y3, y4, y5, y6⟩ := adL_1 L1 ln s1 kc (J ka)
        have u1 : ∀ k, k ≠ 1235 + 4 * ln → su V1 1 (1235 + 4 * ln) (J s1) 1 k = V1 1 k := fun k hk => by rw [su_e, upd_n _ _ _ hk]
        refine ok2_some (.inl ⟨t1, p1, b1, su V1 1 (1235 + 4 * ln) (J s1), adL L1 ln s1 kc (J ka), s1, rfl, rfl, z1, by omega, z3.eq w8.symm, ((vf.sub (by simp)).tr z4.1).put (by simp) _ _, fun k hk => ?_, ?_, by omega⟩)
        · rw [u1 k (by omega), z4.2 k (by omega), v3 k (by omega)]
        · have hD1 : LD (adL L1 ln s1 kc (J ka)) (su V1 1 (1235 + 4 * ln) (J s1)) s1 := by
            have := z6.low (V' := su V1 1 (1235 + 4 * ln) (J s1)) (su_n _ _ _ _ (by decide)) (fun k hk => u1 k (by omega))
            exact ⟨by rw [y5]; exact this.1, this.2.1, fun i hi => by rw [y4]; exact this.2.2 i hi⟩
          refine hK.add hln z9 (by omega) (fun k hk => ?_) (fun k k1 k2 => ?_) hk hr ?_ ?_ ?_ (by rw [su_e, upd_e]) hD1 ?_ y0 ?_ ?_ ?_
          · rw [u1 k (by omega), z4.2 k (by omega), v3 k (by omega)]
          · rw [u1 k (by omega), z4.2 k (by omega), v3 k (by omega)]
          · rw [u1 _ (by omega), z4.2 _ (by omega), v0]
          · rw [u1 _ (by omega), z4.2 _ (by omega), v1]
          · rw [u1 _ (by omega), z4.2 _ (by omega), v2]
          · have hg : gd (su V1 1 (1235 + 4 * ln) (J s1)) = gd V1 := by funext i; unfold gd; rw [u1 _ (by omega)]
            rw [hg]; exact .inr (z10 [] (by simp))
          · intro l; rw [y1, hkc, z5.1 1 (by simp)]
          · intro l; rw [y2, z5.1 2 (by simp)]
          · intro l; rw [y3, z5.1 3 (by simp)]
      · dsimp only
        rw [if_pos rfl, if_pos rfl]
        exact ok2_some (.inr ⟨t1, p1, V1, L1, rfl, by rw [w8], g1, (vf.sub (by simp)).tr g2.1, fun k hk => by rw [g2.2 k (by omega), v3 k (by omega)]⟩)
    · rw [w8] at r e
      have r' : ¬ cd (V 8) len (st (V 8) len (t + 1 + 1)) = 314 := r
      have e16' : ∀ p1 b1, PB W p1 b1 16 0 = J s := fun p1 b1 => by rw [PB_n _ _ _ (by decide) (by decide)]; exact hWD.2.1
      rw [e, bd_s, if_neg r']
      dsimp only
      rw [if_pos rfl, if_pos rfl, addLX n hln h00 hLD.1, bd_s, if_pos ix3, nm_s, e16', su_PB _ _ _ (by decide) (by decide)]
      obtain ⟨y0, y1, y2, y3, y4, y5, y6⟩ := adL_1 L ln s kc (J ka)
      have u1 : ∀ k, k ≠ 1235 + 4 * ln → su W 1 (1235 + 4 * ln) (J s) 1 k = W 1 k := fun k hk => by rw [su_e, upd_n _ _ _ hk]
      refine ok2_some (.inl ⟨t + 1 + 1, _, _, su W 1 (1235 + 4 * ln) (J s), adL L ln s kc (J ka), s, rfl, rfl, by omega, by omega, JC.st V len _, (vf.sub (by simp)).put (by simp) _ _, fun k hk => ?_, ?_, by omega⟩)
      · rw [u1 k (by omega), v3 k (by omega)]
      · have hD1 : LD (adL L ln s kc (J ka)) (su W 1 (1235 + 4 * ln) (J s)) s := by
          have := hWD.low (V' := su W 1 (1235 + 4 * ln) (J s)) (su_n _ _ _ _ (by decide)) (fun k hk => u1 k (by omega))
          exact ⟨by rw [y5]; exact this.1, this.2.1, fun i hi => by rw [y4]; exact this.2.2 i hi⟩
        refine hK.add hln (Nat.le_refl _) (by omega) (fun k hk => ?_) (fun k k1 k2 => ?_) hk hr ?_ ?_ ?_ (by rw [su_e, upd_e]) hD1 ?_ y0 ?_ ?_ ?_
        · rw [u1 k (by omega), v3 k (by omega)]
        · rw [u1 k (by omega), v3 k (by omega)]
        · rw [u1 _ (by omega), v0]
        · rw [u1 _ (by omega), v1]
        · rw [u1 _ (by omega), v2]
        · rw [Nat.sub_self]; unfold tyR; exact .inl rfl
        · intro l; rw [y1, hkc]
        · intro l; rw [y2]
        · intro l; rw [y3]
  · rw [e8] at q e
    have ea : PB (su (su V 1 (1232 + 4 * ln) k) 1 (1233 + 4 * ln) (-1)) p' (st (V 8) len (t + 1)) 1 (1233 + 4 * ln) = -1 := by rw [PB_n _ _ _ (by decide) (by decide), su_e, upd_e]
    rw [if_neg q, e, bd_s]
    dsimp only
    rw [if_pos rfl, if_pos ix1, nm_s, if_pos ix1, su_PB _ _ _ (by decide) (by decide), ea, if_neg (show ¬ ((0 : Int32) ≤ -1) by decide)]
    refine ok2_some (.inr ⟨t + 1, p', _, L, rfl, rfl, by omega, ((Fr.rfl _ _).put (by simp) _ _).put (by simp) _ _, fun k hk => ?_⟩)
    rw [su_e, upd_n _ _ _ (by omega), su_e, upd_n _ _ _ (by omega)]
end PLAWR6
