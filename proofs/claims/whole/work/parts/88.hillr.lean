section PHILLR
def HQ (R V : St) (len N t : Nat) (a : Int32 × St × St) (c : Int32 × St) : Prop :=
  (a.1 = 1 ∧ c.1 = 1 ∧ ∃ t' p' b' V', a.2.1 = RT R t' ∧ t' ≤ N ∧ t < t' ∧ c.2 = PB V' p' b' ∧ JC V len p' t' ∧ Fr [1] V V' ∧ HB a.2.2 (V' 1) ∧ WInv (V' 1) ∧ ∀ k, (82 ≤ k ∨ k = 2 ∨ k = 3 ∨ k = 10) → V' 1 k = V 1 k) ∨
  (a.1 = 0 ∧ c.1 = 0 ∧ ∃ t' p' V', a.2.1 = RT R t' ∧ t' ≤ N ∧ c.2 = PB V' p' (st (V 8) len t') ∧ Fr [1] V V')
theorem HQ.isb1 {R V : St} {len N t : Nat} {a : Int32 × St × St} {c : Int32 × St} (h : HQ R V len N t a c) : isb a.1 ∧ isb c.1 := by
  rcases h with ⟨h1, h2, -⟩ | ⟨h1, h2, -⟩
  · exact ⟨.inr h1, .inr h2⟩
  · exact ⟨.inl h1, .inl h2⟩
theorem vl_nn {tp : Nat → Int32} {len j : Nat} (hl : len ≤ 400) (hb : ∀ j, j < 400 → isByte (tp j)) (hj : j ≤ len) (h : cd tp len j = 256) : 0 ≤ vl tp len j ∧ ¬ vl tp len j < 0 ∧ ¬ vl tp len j = -1 := by
  obtain ⟨-, -, k, e, -, hk⟩ := te_num hl hb hj h
  rw [e]
  have := J_nn (k := k) (by omega)
  exact ⟨by grind, this, J_ne_neg (by omega)⟩
theorem rnT {n : Nat} (hn : 5000 < n) {tok V : St} {len N : Nat} (h : CXt tok V len N) {t : Nat} (ht : t ≤ N) {p b : Nat} (hp : JC V len p t) {a : Nat} (ha : a < 2080) (lo hi : Int32) :
    (nOK (V 8) len (st (V 8) len t) lo hi ∧ t < N ∧ ∃ p', JC V len p' (t + 1) ∧ m_X12_readNumber n (PB V p b) (J a) lo hi = some (1, PB (su V 1 a (vl (V 8) len (st (V 8) len t))) p' (st (V 8) len t))) ∨ (¬ nOK (V 8) len (st (V 8) len t) lo hi ∧ ∃ p', m_X12_readNumber n (PB V p b) (J a) lo hi = some (0, PB (su V 1 a (V 1 a)) p' (st (V 8) len t))) := by
  unfold m_X12_readNumber
  rcases numberT hn h ht hp (b := b) lo hi with ⟨q, h1, p', h2, e⟩ | ⟨q, p', e⟩
  · obtain ⟨v1, v2, v3⟩ := vl_nn h.1.1 h.2.2 (stt_le _ _ _) q.1
    refine .inl ⟨q, h1, p', h2, ?_⟩
    rw [e, bd_s]
    dsimp only
    rw [if_pos v1, bd_s, if_pos (J_ix ha (by omega)), nm_s, J_nat (by omega), if_neg v2, su_PB _ _ _ (by decide) (by decide)]
  · refine .inr ⟨q, p', ?_⟩
    rw [e, bd_s]
    dsimp only
    rw [if_neg (by decide), if_pos (J_ix ha (by omega)), bd_s, if_pos (J_ix ha (by omega)), nm_s, J_nat (by omega), if_pos (by decide), PB_n _ _ _ (by decide) (by decide), su_PB _ _ _ (by decide) (by decide)]
theorem JC.eq {V V' : St} {len p t : Nat} (h : JC V len p t) (e : V' 8 = V 8) : JC V' len p t := by unfold JC; rw [e]; exact h
/-- snow, step, fall, thieves, fee -/
theorem setT {n : Nat} (hn : 5000 < n) {tok R V X : St} {len N : Nat} (h : CXt tok V len N) (hI : WInv (V 1)) (hB : HB X (V 1)) {t : Nat} (ht : t < N) {p b : Nat} (hp : JC V len p (t + 1)) {f a : Nat} (ha : a < 12) (hne : a ≠ 2 ∧ a ≠ 3 ∧ a ≠ 10) {lo hi : Int32}
    (hup : ∀ x, (∃ k, x = J k) → lo ≤ x → x ≤ hi → HB (su X f 0 x) (upd (V 1) a x) ∧ WInv (upd (V 1) a x)) :
    Ok2 (bd (m_X9_number_X4 n (RT R (t + 1)) tok X lo hi) (fun t4 => if t4.1 = (-1) then some (0, t4.2, X) else some (1, t4.2, su X f 0 t4.1))) (m_X12_readNumber n (PB V p b) (J a) lo hi) (HQ R V len N t) := by
  rw [num4 n h.1.1 h.2.1 (by omega), bd_s]
  rcases rnT hn h (t := t + 1) (by omega) hp (b := b) (a := a) (by omega) lo hi with ⟨q, h1, p', h2, e⟩ | ⟨q, p', e⟩
  · obtain ⟨v1, v2, v3⟩ := vl_nn h.1.1 h.2.2 (stt_le _ _ _) q.1
    obtain ⟨-, -, k, ek, -, -⟩ := te_num h.1.1 h.2.2 (stt_le _ _ (t + 1)) q.1
    rw [if_pos q, e]
    dsimp only
    rw [if_neg v3]
    obtain ⟨u1, u2⟩ := hup _ ⟨k, ek⟩ q.2.1 q.2.2
    refine ok2_some (.inl ⟨rfl, rfl, t + 2, p', _, _, rfl, by omega, by omega, rfl, h2, (Fr.rfl _ _).put (by simp) _ _, by rw [su_e]; exact u1, by rw [su_e]; exact u2, fun j hj => ?_⟩)
    rw [su_e, upd_n _ _ _ (by omega)]
  · rw [if_neg q, e]
    dsimp only
    rw [if_pos rfl]
    exact ok2_some (.inr ⟨rfl, rfl, t + 1, p', _, rfl, by omega, rfl, (Fr.rfl _ _).put (by simp) _ _⟩)
theorem J_rng {x : Int32} {a b : Nat} (h : ∃ k, x = J k ∧ k ≤ 2147483647) (h1 : J a ≤ x) (h2 : x ≤ J b) (ha : a < 2147483648) (hb : b < 2147483648) : inB x a b := by
  obtain ⟨k, rfl, hk⟩ := h
  rw [J_le ha (by omega)] at h1
  rw [J_le (by omega) hb] at h2
  exact ⟨k, rfl, h1, h2⟩
theorem vl_rng {tp : Nat → Int32} {len j : Nat} (hl : len ≤ 400) (hb : ∀ j, j < 400 → isByte (tp j)) (hj : j ≤ len) {a b : Nat} (hb2 : b < 2147483648) (ha : a < 2147483648) (h : nOK tp len j (J a) (J b)) : inB (vl tp len j) a b := by
  obtain ⟨-, -, k, ek, -, hk⟩ := te_num hl hb hj h.1
  exact J_rng ⟨k, ek, by omega⟩ h.2.1 h.2.2 ha hb2
-- a purse, guests
theorem ofhT {n : Nat} (hn : 5000 < n) {tok R V X : St} {len N : Nat} (h : CXt tok V len N) (hI : WInv (V 1)) (hB : HB X (V 1)) {t : Nat} (ht : t < N) {p b : Nat} (hp : JC V len p (t + 1)) (g : Bool) :
    Ok2 (m_X4_readOfHouse n (RT R t) tok X (if g then 302 else 301)) (m_X12_readHouse n (PB V p b) (if g then 1 else 0) (if g then 9 else 999)) (HQ R V len N t) := by
  have h5 := hI.p5
  unfold m_X4_readOfHouse m_X12_readHouse
  have hP : PB V p b 1 0 = J (nP (PB V p b 1)) := by rw [PB_n _ _ _ (by decide) (by decide)]; exact hI.p
  rw [nm_s, RT_at, J_succ, RT_RT, Xhouses hI hB, bd_s, houses_s n _ hP, bd_s, PB_n _ _ _ (f := 1) (by decide) (by decide), num4 n h.1.1 h.2.1 (by omega), bd_s]
  simp only [jn_s]
  rcases numberT hn h (t := t + 1) (by omega) hp (b := b) 0 (J (2 * nP (V 1)) - 1) with ⟨q, h1, p', h2, e⟩ | ⟨q, p', e⟩
  · obtain ⟨v1, v2, v3⟩ := vl_nn h.1.1 h.2.2 (stt_le _ _ _) q.1
    have hix : ix (vl (V 8) len (st (V 8) len (t + 1))) (2 * nP (V 1)) := (rng_ix _ (by omega)).mp q.2
    obtain ⟨hh, eh, hhl, -⟩ := of_ix hix
    rw [if_pos q, e, bd_s]
    dsimp only
    rw [if_neg v3, if_neg v2, eh]
    have ehp : m_X12_houseAt n (J hh) (if g then 1 else 0) = some (J ((if g then 33 else 32) + 2 * hh)) := by
      cases g
      · exact houseAt_0 n hh
      · exact houseAt_1 n hh
    rw [ehp, bd_s]
    have e3 : (if (if g then (302 : Int32) else 301) = 301 then some 999 else some 9 : Option Int32) = some (if g then 9 else 999) := by cases g <;> rfl
    rw [e3, bd_s, num4 n h.1.1 h.2.1 (by omega), bd_s]
    rcases rnT hn h (t := t + 1 + 1) (by omega) h2 (b := st (V 8) len (t + 1)) (a := (if g then 33 else 32) + 2 * hh) (by split <;> omega) 0 (if g then 9 else 999) with ⟨q', h1', p'', h2', e'⟩ | ⟨q', p'', e'⟩
    · obtain ⟨v1', v2', v3'⟩ := vl_nn h.1.1 h.2.2 (stt_le _ _ _) q'.1
      rw [if_pos q', e', bd_s]
      dsimp only
      rw [if_neg v3', if_neg (show ¬ ((1 : Int32) = 0) by decide)]
      cases g
      · simp only [Bool.false_eq_true, if_false] at q' ⊢
        rw [if_pos trivial, if_pos (J_ix (by omega) (by omega)), nm_s, J_nat (by omega)]
        refine ok2_some (.inl ⟨rfl, rfl, t + 1 + 1 + 1, p'', _, _, rfl, by omega, by omega, rfl, h2', (Fr.rfl _ _).put (by simp) _ _, ?_, ?_, fun k hk => ?_⟩)
        · rw [su_e]; exact hB.u_purse hI hhl _
        · rw [su_e]; exact hI.u_purse hhl _
        · rw [su_e, upd_n _ _ _ (by omega)]
      · simp only [if_true] at q' ⊢
        rw [if_neg (by decide), if_pos (J_ix (by omega) (by omega)), nm_s, J_nat (by omega)]
        refine ok2_some (.inl ⟨rfl, rfl, t + 1 + 1 + 1, p'', _, _, rfl, by omega, by omega, rfl, h2', (Fr.rfl _ _).put (by simp) _ _, ?_, ?_, fun k hk => ?_⟩)
        · rw [su_e]; exact hB.u_guests hI hhl _
        · rw [su_e]; exact hI.u_guests hhl _ (vl_rng h.1.1 h.2.2 (stt_le _ _ _) (a := 0) (b := 9) (by omega) (by omega) q')
        · rw [su_e, upd_n _ _ _ (by omega)]
    · rw [if_neg q', e', bd_s]
      dsimp only
      rw [if_pos rfl, if_pos rfl]
      exact ok2_some (.inr ⟨rfl, rfl, t + 1 + 1, p'', _, rfl, by omega, rfl, (Fr.rfl _ _).put (by simp) _ _⟩)
  · rw [if_neg q, e, bd_s]
    dsimp only
    rw [if_pos rfl, if_pos (by decide)]
    exact ok2_some (.inr ⟨rfl, rfl, t + 1, p', V, rfl, by omega, rfl, Fr.rfl _ _⟩)
-- a thing
def thW (w : Nat → Int32) (a b c : Int32) : Nat → Int32 := upd (upd (upd (upd w (52 + 3 * nT w) a) (53 + 3 * nT w) b) (54 + 3 * nT w) c) 1 (J (nT w + 1))
def thX (X : St) (T : Nat) (a b c : Int32) : St := su (su (su (su X 15 T a) 16 T b) 17 T c) 1 0 (J (T + 1))
theorem thW_nT {w : Nat → Int32} (h : nT w < 10) (a b c : Int32) : nT (thW w a b c) = nT w + 1 := nT_J (by omega) (by unfold thW; rw [upd_e])
theorem thW_nP (w : Nat → Int32) (a b c : Int32) : nP (thW w a b c) = nP w := by unfold nP thW; rw [upd_n _ _ _ (by omega), upd_n _ _ _ (by omega), upd_n _ _ _ (by omega), upd_n _ _ _ (by omega)]
theorem thB {X : St} {w : Nat → Int32} (hI : WInv w) (hB : HB X w) (hT : nT w < 10) (a b c : Int32) : HB (thX X (nT w) a b c) (thW w a b c) := by
  have h5 := hI.p5
  unfold HB
  rw [thW_nP, thW_nT hT]
  unfold thW thX
  refine ⟨?_, ?_, ?_, ?_, ?_, ?_, ?_, ?_, ?_, fun p hp => ?_, fun h hh => ?_, fun t ht => ?_⟩
  · simp (disch := omega) only [su_a, upd_a, if_pos, if_neg, if_true, if_false, eq_self_iff_true]; exact hB.p
  · simp (disch := omega) only [su_a, upd_a, if_pos, if_neg, if_true, if_false, eq_self_iff_true]
  · simp (disch := omega) only [su_a, upd_a, if_pos, if_neg, if_true, if_false, eq_self_iff_true]; exact hB.snow
  · simp (disch := omega) only [su_a, upd_a, if_pos, if_neg, if_true, if_false, eq_self_iff_true]; exact hB.step
  · simp (disch := omega) only [su_a, upd_a, if_pos, if_neg, if_true, if_false, eq_self_iff_true]; exact hB.fall
  · simp (disch := omega) only [su_a, upd_a, if_pos, if_neg, if_true, if_false, eq_self_iff_true]; exact hB.thieves
  · simp (disch := omega) only [su_a, upd_a, if_pos, if_neg, if_true, if_false, eq_self_iff_true]; exact hB.fee
  · simp (disch := omega) only [su_a, upd_a, if_pos, if_neg, if_true, if_false, eq_self_iff_true]; exact hB.week
  · simp (disch := omega) only [su_a, upd_a, if_pos, if_neg, if_true, if_false, eq_self_iff_true]; exact hB.seed
  · simp (disch := omega) only [su_a, upd_a, if_pos, if_neg, if_true, if_false, eq_self_iff_true]; exact ⟨hB.bears hp, hB.age hp, hB.prop hp, hB.broken hp⟩
  · simp (disch := omega) only [su_a, upd_a, if_pos, if_neg, if_true, if_false, eq_self_iff_true]; exact ⟨hB.purse hh, hB.guests hh⟩
  · by_cases e : t = nT w
    · subst e; simp (disch := omega) only [su_a, upd_a, if_pos, if_neg, if_true, if_false, eq_self_iff_true]; trivial
    · simp (disch := omega) only [su_a, upd_a, if_pos, if_neg, if_true, if_false, eq_self_iff_true]; exact ⟨hB.weight (by omega), hB.worth (by omega), hB.home (by omega)⟩
theorem thI {w : Nat → Int32} (hI : WInv w) (hT : nT w < 10) {a b c : Int32} (ha : inB a 1 60) (hb : inB b 0 99) (hc : ∃ h, c = J h ∧ h < 2 * nP w) : WInv (thW w a b c) := by
  have h5 := hI.p5
  unfold WInv
  rw [thW_nP, thW_nT hT]
  unfold thW
  refine ⟨⟨?_, h5⟩, ⟨?_, by omega⟩, ?_, ?_, fun p hp => ?_, fun h hh => ?_, fun t ht => ?_⟩
  · simp (disch := omega) only [upd_a, if_pos, if_neg, if_true, if_false, eq_self_iff_true]; exact hI.p
  · simp (disch := omega) only [upd_a, if_pos, if_neg, if_true, if_false, eq_self_iff_true]
  · simp (disch := omega) only [upd_a, if_pos, if_neg, if_true, if_false, eq_self_iff_true]; exact hI.step
  · simp (disch := omega) only [upd_a, if_pos, if_neg, if_true, if_false, eq_self_iff_true]; exact hI.snow
  · simp (disch := omega) only [upd_a, if_pos, if_neg, if_true, if_false, eq_self_iff_true]; exact hI.pl hp
  · simp (disch := omega) only [upd_a, if_pos, if_neg, if_true, if_false, eq_self_iff_true]; exact hI.ho hh
  · by_cases e : t = nT w
    · subst e; simp (disch := omega) only [upd_a, if_pos, if_neg, if_true, if_false, eq_self_iff_true]; exact ⟨ha, hb, .inr hc⟩
    · simp (disch := omega) only [upd_a, if_pos, if_neg, if_true, if_false, eq_self_iff_true]; exact hI.th (by omega)
theorem thX_s (n : Nat) {X : St} {T : Nat} (hT : T < 10) (h : X 1 0 = J T) (a b c : Int32) : m_X3_addThing n X a b c = some (thX X T a b c) := by
  unfold m_X3_addThing thX
  have e : J T < 10 := by rw [show (10 : Int32) = J 10 from rfl, J_lt (by omega) (by omega)]; exact hT
  have e1 : su X 15 T a 1 0 = J T := by rw [su_n _ _ _ _ (by decide)]; exact h
  have e2 : su (su X 15 T a) 16 T b 1 0 = J T := by rw [su_n _ _ _ _ (by decide)]; exact e1
  have e3 : su (su (su X 15 T a) 16 T b) 17 T c 1 0 = J T := by rw [su_n _ _ _ _ (by decide)]; exact e2
  simp (disch := omega) only [h, e, ↓reduceIte, ix_J, J_nat, nm_s, e1, e2, e3, J_succ]
theorem afterT {n : Nat} (hn : 5000 < n) {tok V : St} {len N : Nat} (h : CXt tok V len N) {t : Nat} (ht : t ≤ N) {p b : Nat} (hp : JC V len p t) {s : Nat} (hs : s < 26) (hs1 : 1 ≤ s) (lo hi : Int32) :
    (cd (V 8) len (st (V 8) len t) = J (300 + wix s) ∧ t < N ∧ nOK (V 8) len (st (V 8) len (t + 1)) lo hi ∧ t + 1 < N ∧ ∃ p', JC V len p' (t + 2) ∧ m_X12_after n (PB V p b) s lo hi = some (vl (V 8) len (st (V 8) len (t + 1)), PB V p' (st (V 8) len (t + 1)))) ∨
    (cd (V 8) len (st (V 8) len t) = J (300 + wix s) ∧ t < N ∧ ¬ nOK (V 8) len (st (V 8) len (t + 1)) lo hi ∧ ∃ p', m_X12_after n (PB V p b) s lo hi = some (-1, PB V p' (st (V 8) len (t + 1)))) ∨
    (¬ cd (V 8) len (st (V 8) len t) = J (300 + wix s) ∧ ∃ p', m_X12_after n (PB V p b) s lo hi = some (-1, PB V p' (st (V 8) len t))) := by
  unfold m_X12_after
  rw [lettersT hn h hp, bd_s, wordT hn h t hs hs1, bd_s]
  by_cases q : cd (V 8) len (st (V 8) len t) = J (300 + wix s)
  · obtain ⟨c1, c2⟩ := nextW h ht (wix_wd s hs hs1).2.1 q
    rw [decide_eq_true q, if_neg (by decide)]
    rcases numberT hn h (t := t + 1) (by omega) c2 (b := st (V 8) len t) lo hi with ⟨q', h1, p', h2, e⟩ | ⟨q', p', e⟩
    · exact .inl ⟨q, c1, q', h1, p', h2, by rw [e, bd_s]⟩
    · exact .inr (.inl ⟨q, c1, q', p', by rw [e, bd_s]⟩)
  · rw [decide_eq_false q, if_pos (by decide)]
    exact .inr (.inr ⟨q, _, rfl⟩)
theorem thingT {n : Nat} (hn : 5000 < n) {tok R V X : St} {len N : Nat} (h : CXt tok V len N) (hI : WInv (V 1)) (hB : HB X (V 1)) {t : Nat} (ht : t < N) {p : Nat} (hp : JC V len p (t + 1)) :
    Ok2 (m_X4_readThing n (RT R t) tok X) (m_X12_readThing n (PB V p (st (V 8) len t))) (HQ R V len N t) := by
  have h5 := hI.p5
  have h10 := hI.t10
  unfold m_X4_readThing m_X12_readThing
  rw [things_s, bd_s, PB_n _ _ _ (f := 1) (by decide) (by decide), hB.t, hI.t]
  by_cases hT : nT (V 1) < 10
  · rw [if_pos (by rw [show (10 : Int32) = J 10 from rfl, J_lt (by omega) (by omega)]; exact hT), if_neg (by rw [show (10 : Int32) = J 10 from rfl, J_inj (by omega) (by omega)]; omega), nm_s, RT_at, J_succ, RT_RT, num4 n h.1.1 h.2.1 (by omega), bd_s]
    rcases numberT hn h (t := t + 1) (by omega) hp (b := st (V 8) len t) 1 60 with ⟨q, h1, p1, h2, e⟩ | ⟨q, p1, e⟩
    · obtain ⟨v1, v2, v3⟩ := vl_nn h.1.1 h.2.2 (stt_le _ _ _) q.1
      rw [if_pos q, e, bd_s]
      dsimp only
      rw [if_neg v3, if_pos v1, skip4 n h.1.1 h.2.1 (by omega), bd_s]
      have hb1 := vl_rng h.1.1 h.2.2 (stt_le _ _ _) (a := 1) (b := 60) (by omega) (by omega) q
      generalize vl (V 8) len (st (V 8) len (t + 1)) = x1 at hb1 ⊢
      rcases afterT hn h (t := t + 1 + 1) (by omega) h2 (b := st (V 8) len (t + 1)) (s := 2) (by omega) (by omega) 0 99 with ⟨a1, a2, a3, a4, p2, a5, a6⟩ | ⟨a1, a2, a3, p2, a6⟩ | ⟨a1, p2, a6⟩
      · have a1' : cd (V 8) len (st (V 8) len (t + 1 + 1)) = 309 := a1
        obtain ⟨w1, w2, w3⟩ := vl_nn h.1.1 h.2.2 (stt_le _ _ _) a3.1
        rw [if_pos a1', a6, bd_s, bd_s]
        dsimp only
        rw [if_neg (show ¬ ((1 : Int32) = 0) by decide), num4 n h.1.1 h.2.1 (by omega), bd_s, if_pos a3, if_pos w1]
        dsimp only
        rw [if_neg w3, skip4 n h.1.1 h.2.1 (by omega), bd_s]
        have hb2 := vl_rng h.1.1 h.2.2 (stt_le _ _ _) (a := 0) (b := 99) (by omega) (by omega) a3
        generalize vl (V 8) len (st (V 8) len (t + 1 + 1 + 1)) = x2 at hb2 ⊢
        have hP2 : PB V p2 (st (V 8) len (t + 1 + 1 + 1)) 1 0 = J (nP (PB V p2 (st (V 8) len (t + 1 + 1 + 1)) 1)) := by rw [PB_n _ _ _ (by decide) (by decide)]; exact hI.p
        rw [houses_s n _ hP2, bd_s, PB_n _ _ _ (f := 1) (by decide) (by decide)]
        rcases afterT hn h (t := t + 1 + 1 + 2) (by omega) a5 (b := st (V 8) len (t + 1 + 1 + 1)) (s := 3) (by omega) (by omega) 0 (J (2 * nP (V 1)) - 1) with ⟨b1, b2, b3, b4, p3, b5, b6⟩ | ⟨b1, b2, b3, p3, b6⟩ | ⟨b1, p3, b6⟩
        · have b1' : cd (V 8) len (st (V 8) len (t + 1 + 1 + 1 + 1)) = 310 := b1
          obtain ⟨z1, z2, z3⟩ := vl_nn h.1.1 h.2.2 (stt_le _ _ _) b3.1
          rw [if_pos b1', b6, bd_s, bd_s]
          dsimp only
          rw [if_neg (show ¬ ((1 : Int32) = 0) by decide), Xhouses hI hB, bd_s, num4 n h.1.1 h.2.1 (by omega), bd_s, if_pos b3, if_pos z1]
          dsimp only
          have hix := (rng_ix _ (by omega)).mp b3.2
          obtain ⟨hh, eh, hhl, -⟩ := of_ix hix
          rw [if_neg z3, thX_s n hT (hB.t.trans hI.t), bd_s]
          generalize vl (V 8) len (st (V 8) len (t + 1 + 1 + 2 + 1)) = x3 at eh ⊢
          rw [thingAt_0, bd_s, if_pos (J_ix (by omega) (by omega)), nm_s, thingAt_1, bd_s, if_pos (J_ix (by omega) (by omega)), nm_s, thingAt_2, bd_s, if_pos (J_ix (by omega) (by omega)), nm_s, nm_s, J_nat (by omega), J_nat (by omega), J_nat (by omega)]
          simp only [su_PB _ _ _ (show (1 : Nat) ≠ 10 by decide) (show (1 : Nat) ≠ 12 by decide), PB_n _ _ _ (show (1 : Nat) ≠ 10 by decide) (show (1 : Nat) ≠ 12 by decide), su_e]
          have er : su (su (su (su V 1 (52 + 3 * nT (V 1)) x1) 1 (53 + 3 * nT (V 1)) x2) 1 (54 + 3 * nT (V 1)) x3) 1 1 (upd (upd (upd (V 1) (52 + 3 * nT (V 1)) x1) (53 + 3 * nT (V 1)) x2) (54 + 3 * nT (V 1)) x3 1 + 1) 1 = thW (V 1) x1 x2 x3 := by
            unfold thW
            rw [su_e, su_e, su_e, su_e, upd_n _ _ _ (by omega), upd_n _ _ _ (by omega), upd_n _ _ _ (by omega), hI.t, J_succ]
          refine ok2_some (.inl ⟨rfl, rfl, t + 1 + 1 + 2 + 2, p3, _, _, rfl, by omega, by omega, rfl, b5, ((((Fr.rfl _ _).put (by simp) _ _).put (by simp) _ _).put (by simp) _ _).put (by simp) _ _, ?_, ?_, fun k hk => ?_⟩)
          · rw [er]; exact thB hI hB hT _ _ _
          · rw [er]; exact thI hI hT hb1 hb2 ⟨hh, eh, hhl⟩
          · rw [er]; unfold thW; rw [upd_n _ _ _ (by omega), upd_n _ _ _ (by omega), upd_n _ _ _ (by omega), upd_n _ _ _ (by omega)]
        · have b1' : cd (V 8) len (st (V 8) len (t + 1 + 1 + 1 + 1)) = 310 := b1
          rw [if_pos b1', b6, bd_s, bd_s]
          dsimp only
          rw [if_neg (show ¬ ((1 : Int32) = 0) by decide), Xhouses hI hB, bd_s, num4 n h.1.1 h.2.1 (by omega), bd_s, if_neg b3, if_neg (show ¬ ((0 : Int32) ≤ -1) by decide)]
          dsimp only
          rw [if_pos rfl]
          exact ok2_some (.inr ⟨rfl, rfl, t + 1 + 1 + 2 + 1, p3, V, rfl, by omega, rfl, Fr.rfl _ _⟩)
        · have b1' : ¬ cd (V 8) len (st (V 8) len (t + 1 + 1 + 1 + 1)) = 310 := b1
          rw [if_neg b1', b6, bd_s, bd_s]
          dsimp only
          rw [if_pos rfl, if_neg (show ¬ ((0 : Int32) ≤ -1) by decide)]
          exact ok2_some (.inr ⟨rfl, rfl, t + 1 + 1 + 2, p3, V, rfl, by omega, rfl, Fr.rfl _ _⟩)
      · have a1' : cd (V 8) len (st (V 8) len (t + 1 + 1)) = 309 := a1
        rw [if_pos a1', a6, bd_s, bd_s]
        dsimp only
        rw [if_neg (show ¬ ((1 : Int32) = 0) by decide), num4 n h.1.1 h.2.1 (by omega), bd_s, if_neg a3, if_neg (show ¬ ((0 : Int32) ≤ -1) by decide), bd_s]
        dsimp only
        rw [if_pos rfl, if_neg (show ¬ ((0 : Int32) ≤ -1) by decide)]
        exact ok2_some (.inr ⟨rfl, rfl, t + 1 + 1 + 1, p2, V, rfl, by omega, rfl, Fr.rfl _ _⟩)
      · have a1' : ¬ cd (V 8) len (st (V 8) len (t + 1 + 1)) = 309 := a1
        rw [if_neg a1', a6, bd_s, bd_s]
        dsimp only
        rw [if_pos rfl, if_neg (show ¬ ((0 : Int32) ≤ -1) by decide), bd_s]
        dsimp only
        rw [if_neg (show ¬ ((0 : Int32) ≤ -1) by decide)]
        exact ok2_some (.inr ⟨rfl, rfl, t + 1 + 1, p2, V, rfl, by omega, rfl, Fr.rfl _ _⟩)
    · rw [if_neg q, e, bd_s]
      dsimp only
      rw [if_pos rfl, if_neg (show ¬ ((0 : Int32) ≤ -1) by decide), bd_s]
      dsimp only
      rw [if_neg (show ¬ ((0 : Int32) ≤ -1) by decide), bd_s]
      dsimp only
      rw [if_neg (show ¬ ((0 : Int32) ≤ -1) by decide)]
      exact ok2_some (.inr ⟨rfl, rfl, t + 1, p1, V, rfl, by omega, rfl, Fr.rfl _ _⟩)
  · rw [if_neg (by rw [show (10 : Int32) = J 10 from rfl, J_lt (by omega) (by omega)]; exact hT), if_pos (by rw [show nT (V 1) = 10 from by omega]; rfl)]
    exact ok2_some (.inr ⟨rfl, rfl, t, p, V, rfl, by omega, rfl, Fr.rfl _ _⟩)
end PHILLR
