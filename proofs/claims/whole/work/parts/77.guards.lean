section PGUARD
/-- what guards answers -/
def GU (N : Nat) (ok : Nat → Bool) (r : Int32) : Prop :=
  (r = -1 ∧ ∀ s, s < N → ok s = true → 4 ≤ popN s 10) ∨ (∃ s, s < N ∧ r = J s ∧ popN s 10 < 4 ∧ ok s = true ∧ (∀ s', s' < N → ok s' = true → popN s 10 ≤ popN s' 10) ∧ ∀ s', s' < s → ¬ (popN s' 10 = popN s 10 ∧ ok s' = true))
theorem GU.uniq {N : Nat} (hN : N ≤ 1024) {ok : Nat → Bool} {r r' : Int32} (h : GU N ok r) (h' : GU N ok r') : r = r' := by
  rcases h with ⟨e, h⟩ | ⟨s, hs, e, hc, ho, hm, hf⟩ <;> rcases h' with ⟨e', h'⟩ | ⟨s', hs', e', hc', ho', hm', hf'⟩
  · rw [e, e']
  · have := h s' hs' ho'; omega
  · have := h' s hs ho; omega
  · have h1 := hm s' hs' ho'
    have h2 := hm' s hs ho
    have h3 : ¬ s < s' := fun q => hf' s q ⟨by omega, ho⟩
    have h4 : ¬ s' < s := fun q => hf s' q ⟨by omega, ho'⟩
    rw [e, e', show s = s' from by omega]
theorem shl_J {P : Nat} (h : P ≤ 5) : x_shl 1 (J (2 * P)) = J (2 ^ (2 * P)) := by
  have : ∀ P : Nat, P ≤ 5 → x_shl 1 (J (2 * P)) = J (2 ^ (2 * P)) := by decide +kernel
  exact this P h
theorem pow_le {P : Nat} (h : P ≤ 5) : 2 ^ (2 * P) ≤ 1024 := by
  have : ∀ P : Nat, P ≤ 5 → 2 ^ (2 * P) ≤ 1024 := by decide
  exact this P h
def okS (w : Nat → Int32) (m : Nat) (lim : Int32) (s : Nat) : Bool := safeS w (J s) lim m
theorem guardX {n : Nat} (hn : 5000 < n) {v0 v L s : St} {w : Nat → Int32} (hR : HR v w) (hL : LR L w) {m : Nat} (hm : m ≤ 8) {lim : Int32} (hl : -1 ≤ lim) :
    Ok (bd (m_X3_houses n v) (fun t3 =>
nm (x_shl 1 t3) (fun x3_4 =>
lp (fun (rc5 : Int32 × St × St → Option ((Int32 × St × St) ⊕ (Nat × St × St))) (x5l : Int32 × St × St) =>
(if 3 < x5l.1 then
some (Sum.inl ((-1), x5l.2.1, x5l.2.2))
else
jn (fun (t6 : St × St) =>
rc5 ((x5l.1 + 1), t6.1, t6.2)) (fun (K6 : St × St → Option ((Int32 × St × St) ⊕ (Nat × St × St))) =>
lp (fun (rc7 : Int32 × St × St → Option ((Int32 × St × St) ⊕ (Nat × St × St))) (x7l : Int32 × St × St) =>
(if x3_4 ≤ x7l.1 then
K6 (x7l.2.1, x7l.2.2)
else
bd (m_J6_bitCount_0f7a4 n x7l.1) (fun t8 =>
jn (fun (t9 : St × St) =>
rc7 ((x7l.1 + 1), t9.1, t9.2)) (fun (K9 : St × St → Option ((Int32 × St × St) ⊕ (Nat × St × St))) =>
(if t8 = x5l.1 then
bd (m_X11_isSafe n v0 v x7l.2.1 x7l.2.2 x7l.1 (J m) lim) (fun t10 =>
(if t10.1 = 0 then
K9 (t10.2.1, t10.2.2)
else
some (Sum.inl (x7l.1, t10.2.1, t10.2.2))))
else
K9 (x7l.2.1, x7l.2.2)))))) n (0, x5l.2.1, x5l.2.2)))) n (0, L, s)))) (fun r => ∃ a L' s', r = Sum.inl (a, L', s') ∧ GU (2 ^ (2 * nP w)) (okS w m lim) a ∧ Fr [6] L L') := by
  have h5 := hR.1.p5
  have hN := pow_le h5
  rw [Xhouses hR.1 hR.2.1, bd_s, nm_s, shl_J h5]
  generalize 2 ^ (2 * nP w) = N at hN ⊢
  refine ok_forE (fun k (x : St × St) => (J k, x.1, x.2)) 4 (fun k x => Fr [6] L x.1 ∧ ∀ s, s < N → okS w m lim s = true → k ≤ popN s 10) ?_ ?_ (by omega) (L, s) rfl ⟨Fr.rfl _ _, fun _ _ _ => Nat.zero_le _⟩
  · rintro rc k ⟨L', x⟩ hk ⟨hf, hlo⟩ ih
    dsimp only at hf
    have e1 : ¬ (3 : Int32) < J k := by rw [show (3 : Int32) = J 3 from rfl, J_lt (by omega) (by omega)]; omega
    simp only [e1, ↓reduceIte, jn_s]
    refine ok_forE (fun j (x : St × St) => (J j, x.1, x.2)) N (fun j x => Fr [6] L x.1 ∧ ∀ s', s' < j → ¬ (popN s' 10 = k ∧ okS w m lim s' = true)) ?_ ?_ (by omega) (L', x) rfl ⟨hf, fun s' h => absurd h (by omega)⟩
    · rintro rc2 j ⟨L2, y⟩ hj ⟨hf2, hno⟩ ih2
      dsimp only at hf2
      have hpl := popN_le j 10
      simp (disch := omega) only [J_le, Nat.not_le.mpr hj, ↓reduceIte, bc_s, bcF_J, bd_s, J_inj, J_succ j]
      have cont : ∀ L3 y3, Fr [6] L L3 → ¬ (popN j 10 = k ∧ okS w m lim j = true) → Ok (rc2 (J (j + 1), L3, y3)) (fun r => ∃ a L' s', r = Sum.inl (a, L', s') ∧ GU N (okS w m lim) a ∧ Fr [6] L L') := fun L3 y3 h1 h2 => ih2 (L3, y3) ⟨h1, fun s' hs' => by
        by_cases q : s' = j
        · rw [q]; exact h2
        · exact hno s' (by omega)⟩
      by_cases q : popN j 10 = k
      · rw [if_pos q]
        refine ok_bd2 (safeX hn hR (hL.fr hf2) (J j) hm hl) ?_
        rintro ⟨a, L3, y3⟩ ⟨h1, h2⟩
        dsimp only at h1 h2 ⊢
        subst h1
        by_cases q2 : safeS w (J j) lim m = true
        · rw [q2, if_neg (by decide)]
          refine ok_some ⟨_, _, _, rfl, .inr ⟨j, hj, rfl, by omega, q2, fun s' hs' ho => ?_, fun s' hs' => ?_⟩, hf2.tr h2⟩
          · rw [q]; exact hlo s' hs' ho
          · rw [q]; exact hno s' hs'
        · have q2' : safeS w (J j) lim m = false := by simpa using q2
          rw [q2', if_pos (by decide)]
          exact cont _ _ (hf2.tr h2) (fun h => q2 h.2)
      · rw [if_neg q]
        exact cont _ _ hf2 (fun h => q h.1)
    · rintro rc2 ⟨L2, y⟩ ⟨hf2, hno⟩
      dsimp only at hf2
      simp (disch := omega) only [J_le, Nat.le_refl, ↓reduceIte, J_succ k]
      refine ih (L2, y) ⟨hf2, fun s' hs' ho => ?_⟩
      have h1 := hlo s' hs' ho
      have h2 : ¬ popN s' 10 = k := fun h => hno s' hs' ⟨h, ho⟩
      omega
  · rintro rc ⟨L', x⟩ ⟨hf, hlo⟩
    have e1 : (3 : Int32) < J 4 := by decide
    simp only [e1, ↓reduceIte]
    exact ok_some ⟨_, _, _, rfl, .inl ⟨rfl, hlo⟩, hf⟩
theorem guardR {n : Nat} (hn : 5000 < n) (V : St) (hI : WInv (V 1)) (hL : LWo (V 1)) {m : Nat} (hm : m ≤ 8) {lim : Int32} (hl : -1 ≤ lim) :
    Ok (lp (fun (rc5 : Int32 × Int32 × Int32 × St → Option (Int32 × St)) (x5l : Int32 × Int32 × Int32 × St) =>
bd (m_X12_houses n x5l.2.2.2) (fun t6 =>
(if (x_shl 1 t6) ≤ x5l.2.2.1 then
some (x5l.1, x5l.2.2.2)
else
bd (m_J6_bitCount_0f7a4 n x5l.2.2.1) (fun t7 =>
bd ((if x5l.2.1 ≤ t7 then
some (x5l.1, x5l.2.1, x5l.2.2.2)
else
bd (m_X12_worstOf n x5l.2.2.2 (J m) x5l.2.2.1) (fun t9 =>
(if t9.1 ≤ lim then
bd (m_J6_bitCount_0f7a4 n x5l.2.2.1) (fun t10 =>
some (x5l.2.2.1, t10, t9.2))
else
some (x5l.1, x5l.2.1, t9.2))))) (fun (t8 : Int32 × Int32 × St) =>
rc5 (t8.1, t8.2.1, (x5l.2.2.1 + 1), t8.2.2)))))) n ((-1), 4, 0, V)) (fun r => GU (2 ^ (2 * nP (V 1))) (okS (V 1) m lim) r.1 ∧ Fr [4, 17] V r.2) := by
  have h5 := hI.p5
  have hN := pow_le h5
  have hsh := shl_J h5
  generalize 2 ^ (2 * nP (V 1)) = N at hN hsh ⊢
  refine ok_forE (fun k (x : (Int32 × Nat) × St) => (x.1.1, J x.1.2, J k, x.2)) N (fun k x => Fr [4, 17] V x.2 ∧ x.1.2 ≤ 4 ∧ (∀ s, s < k → okS (V 1) m lim s = true → x.1.2 ≤ popN s 10) ∧ ((x.1.2 = 4 ∧ x.1.1 = -1) ∨ (x.1.2 < 4 ∧ ∃ s, s < k ∧ x.1.1 = J s ∧ popN s 10 = x.1.2 ∧ okS (V 1) m lim s = true ∧ ∀ s', s' < s → ¬ (popN s' 10 = x.1.2 ∧ okS (V 1) m lim s' = true)))) ?_ ?_ (by omega) ((-1, 4), V) rfl ⟨Fr.rfl _ _, Nat.le_refl _, fun s h => absurd h (by omega), .inl ⟨rfl, rfl⟩⟩
  · rintro rc k ⟨⟨b, c⟩, x⟩ hk ⟨hf, hc4, hlo, hbest⟩ ih
    dsimp only at hf hc4 hlo hbest
    have e1 : x 1 = V 1 := hf 1 (by simp)
    have hpl := popN_le k 10
    have hP : x 1 0 = J (nP (x 1)) := by rw [e1]; exact hI.p
    simp (disch := omega) only [houses_s n x hP, e1, bd_s, hsh, J_le, Nat.not_le.mpr hk, ↓reduceIte, bc_s, bcF_J, J_succ k]
    by_cases q : c ≤ popN k 10
    · rw [if_pos q, bd_s]
      refine ih ((b, c), x) ⟨hf, hc4, fun s hs ho => ?_, ?_⟩
      · by_cases e : s = k
        · rw [e]; exact q
        · exact hlo s (by omega) ho
      · rcases hbest with h | ⟨h1, s, h2, h3⟩
        · exact .inl h
        · exact .inr ⟨h1, s, by omega, h3⟩
    · rw [if_neg q]
      refine ok_bd (ok_bd2 (worR hn x (by rw [e1]; exact hI) (by rw [e1]; exact hL) (J k) hm) ?_)
      rintro ⟨a, U⟩ ⟨h1, h2⟩
      dsimp only at h1 h2 ⊢
      subst h1
      rw [e1]
      have hw := wor_le (w := V 1) (g := J k) hl m
      by_cases q2 : worS (V 1) (J k) m ≤ lim
      · rw [if_pos q2]
        refine ok_some (ih ((J k, popN k 10), U) ⟨hf.tr h2, by dsimp only; omega, fun s hs ho => ?_, .inr ⟨by dsimp only; omega, k, by omega, rfl, rfl, hw.mp q2, fun s' hs' => ?_⟩⟩)
        · dsimp only
          by_cases e : s = k
          · rw [e]; exact Nat.le_refl _
          · have := hlo s (by omega) ho; omega
        · dsimp only
          rintro ⟨e, ho⟩
          have := hlo s' hs' ho; omega
      · rw [if_neg q2]
        refine ok_some (ih ((b, c), U) ⟨hf.tr h2, hc4, fun s hs ho => ?_, ?_⟩)
        · by_cases e : s = k
          · exfalso; rw [e] at ho; exact q2 (hw.mpr ho)
          · exact hlo s (by omega) ho
        · rcases hbest with h | ⟨h1, s, h2, h3⟩
          · exact .inl h
          · exact .inr ⟨h1, s, by omega, h3⟩
  · rintro rc ⟨⟨b, c⟩, x⟩ ⟨hf, hc4, hlo, hbest⟩
    dsimp only at hf hc4 hlo hbest
    have e1 : x 1 = V 1 := hf 1 (by simp)
    have hP : x 1 0 = J (nP (x 1)) := by rw [e1]; exact hI.p
    simp (disch := omega) only [houses_s n x hP, e1, bd_s, hsh, J_le, Nat.le_refl, ↓reduceIte]
    refine ok_some ⟨?_, hf⟩
    dsimp only
    rcases hbest with ⟨h1, h2⟩ | ⟨h1, s, h2, h3, h4, h5, h6⟩
    · exact .inl ⟨h2, fun s hs ho => by have := hlo s hs ho; omega⟩
    · exact .inr ⟨s, h2, h3, by omega, h5, fun s' hs' ho => by rw [h4]; exact hlo s' hs' ho, fun s' hs' => by rw [h4]; exact h6 s' hs'⟩
-- how many are gone
def cntN (P : Nat → Bool) : Nat → Nat
  | 0 => 0
  | k + 1 => cntN P k + if P k then 1 else 0
theorem cntN_le (P : Nat → Bool) : ∀ N, cntN P N ≤ N
  | 0 => Nat.le_refl _
  | N + 1 => by have := cntN_le P N; unfold cntN; split <;> omega
theorem cntN_congr {P Q : Nat → Bool} : ∀ {N : Nat}, (∀ k, k < N → P k = Q k) → cntN P N = cntN Q N
  | 0, _ => rfl
  | N + 1, h => by unfold cntN; rw [cntN_congr (fun k hk => h k (by omega)), h N (by omega)]
theorem popN_cnt (m : Nat) : ∀ N, popN m N = cntN (fun k => m.testBit k) N
  | 0 => rfl
  | N + 1 => by unfold popN cntN; rw [popN_cnt m N]
theorem cntN_ext (P : Nat → Bool) {N : Nat} : ∀ d, cntN (fun k => decide (k < N) && P k) (N + d) = cntN P N
  | 0 => cntN_congr (fun k hk => by simp; intro h; omega)
  | d + 1 => by
    rw [show N + (d + 1) = (N + d) + 1 from rfl]
    unfold cntN
    rw [cntN_ext P d, if_neg (by simp; intro h; omega)]
    cases N <;> rfl
theorem bc_set (P : Nat → Bool) {N : Nat} (h : N ≤ 10) : bcF (setN P N) = J (cntN P N) := by
  obtain ⟨m, em, hm⟩ := low_J (low_mono (setN_low P (by omega)) h) (by omega)
  rw [em, bcF_J hm, popN_cnt]
  congr 1
  have : cntN (fun k => m.testBit k) 10 = cntN (fun k => decide (k < N) && P k) 10 := cntN_congr (fun k hk => by
    rw [← tb_J (k := k) (by omega), ← em, tb_set P N (by omega) k (by omega)])
  rw [this]
  have := cntN_ext P (N := N) (10 - N)
  rw [show N + (10 - N) = 10 from by omega] at this
  exact this
theorem cntN_inc {P Q : Nat → Bool} {t : Nat} (hp : P t = false) (hq : Q t = true) (h : ∀ k, k ≠ t → Q k = P k) : ∀ N, cntN Q N = cntN P N + if t < N then 1 else 0
  | 0 => rfl
  | N + 1 => by
    have ih := cntN_inc hp hq h N
    unfold cntN
    rw [ih]
    by_cases e : N = t
    · subst e; simp [hp, hq]
    · rw [h N e]
      by_cases q : t < N
      · have q2 : t < N + 1 := by omega
        simp only [q, q2, if_true]; omega
      · have q2 : ¬ t < N + 1 := by omega
        simp only [q, q2, if_false]; omega
def gnN (w : Nat → Int32) : Nat := cntN (fun t => decide (w (54 + 3 * t) = -1)) (nT w)
theorem gn_bc {w : Nat → Int32} (hI : WInv w) : bcF (inS w (-1)) = J (gnN w) := bc_set _ hI.t10
theorem gn_le {w : Nat → Int32} (hI : WInv w) : gnN w ≤ 10 := by have := cntN_le (fun t => decide (w (54 + 3 * t) = -1)) (nT w); have := hI.t10; unfold gnN; omega
theorem gn_eq {w u : Nat → Int32} (hT : nT w ≤ 10) (h1 : u 1 = w 1) (h : ∀ k, 52 ≤ k → k < 82 → u k = w k) : gnN u = gnN w := by
  unfold gnN
  rw [show nT u = nT w from by unfold nT; rw [h1]]
  exact cntN_congr (fun k hk => by rw [h _ (by omega) (by omega)])
theorem gn_st {w : Nat → Int32} (hI : WInv w) (g : Int32) : gnN (stlW w g) = gnN w + if stS w g = -1 then 0 else 1 := by
  have h10 := hI.t10
  rcases stS_cases w g with h | ⟨t, ht, h⟩
  · have : stlW w g = w := by unfold stlW; rw [if_pos h]
    rw [this, if_pos h]; rfl
  · have hne : ¬ stS w g = -1 := by rw [h]; exact J_ne_neg (by omega)
    rw [if_neg hne]
    have ew : stlW w g = upd w (54 + 3 * t) (-1) := by unfold stlW; rw [if_neg hne, h, J_nat (by omega)]
    have hhome : w (54 + 3 * t) = luredS w g ∧ ¬ luredS w g = -1 := by
      have hs : stS w g = if luredS w g = -1 then -1 else dearS w (luredS w g) := rfl
      by_cases q : luredS w g = -1
      · rw [if_pos q] at hs; exact absurd hs hne
      · rw [if_neg q] at hs
        refine ⟨?_, q⟩
        rcases dearS_cases w (luredS w g) with c | ⟨t', ht', c, c2⟩
        · rw [c] at hs; exact absurd hs hne
        · rw [h, c, J_inj (by omega) (by omega)] at hs; rw [hs]; exact c2
    unfold gnN
    rw [show nT (stlW w g) = nT w from by unfold nT; rw [stW_ne hI g (.inl (by omega))], ew]
    rw [cntN_inc (P := fun t => decide (w (54 + 3 * t) = -1)) (t := t) ?_ ?_ ?_ (nT w), if_pos ht]
    · rw [decide_eq_false]; rw [hhome.1]; exact hhome.2
    · rw [upd_e]; rfl
    · intro k hk; rw [upd_n _ _ _ (by omega)]
theorem gn_one {w : Nat → Int32} (hI : WInv w) (hL : LWo w) : J (gnN (oneW w)) = J (gnN w) + thiefB (payTo (snowW w) (2 * nP w)) := by
  have h5 := hI.p5
  have hT := hI.t10
  have hI2 := payTo_I (snowW_I hI) (K := 2 * nP w) (by omega)
  generalize hr : payTo (snowW w) (2 * nP w) = r at hI2
  have e1 : gnN (oneW w) = gnN (thiefW r) := by
    refine gn_eq (thiefW_I hI2).t10 ?_ (fun k a b => ?_)
    · unfold oneW weekW; rw [upd_n _ _ _ (by omega), ageTo_ne _ _ (fun _ _ => by omega), hr]
    · unfold oneW weekW; rw [upd_n _ _ _ (by omega), ageTo_ne _ _ (fun _ _ => by omega), hr]
  have e2 : gnN r = gnN w := by
    refine gn_eq hT ?_ (fun k a b => ?_)
    · rw [← hr, payTo_ne _ _ (fun _ _ => by omega), snowW_ne _ (by omega) (by omega)]
    · rw [← hr, payTo_ne _ _ (fun _ _ => by omega), snowW_ne _ (by omega) (by omega)]
  have hI3 := hI2.u_seed (drS (r 11))
  have e3 : gnN (upd r 11 (drS (r 11))) = gnN r := gn_eq hI2.t10 (upd_n _ _ _ (by omega)) (fun k a b => upd_n _ _ _ (by omega))
  rw [e1, ← e2]
  unfold thiefW thiefB
  by_cases h : x_rem (drV (drS (r 11))) 100 < r 8
  · rw [if_pos h, if_pos h]
    by_cases q : stS (upd r 11 (drS (r 11))) 0 = -1
    · rw [if_pos q, if_pos q, e3, Int32.add_zero]
    · rw [if_neg q, if_neg q]
      have e4 : gnN (tellW (stlW (upd r 11 (drS (r 11))) 0) (stS (upd r 11 (drS (r 11))) 0) (luredS (upd r 11 (drS (r 11))) 0) (-1) 1) = gnN (stlW (upd r 11 (drS (r 11))) 0) := gn_eq (stW_I hI3 0).t10 (tellW_lo _ _ _ _ _ (by omega) (by omega)) (fun k a b => tellW_lo _ _ _ _ _ (by omega) (by omega))
      rw [e4, gn_st hI3, if_neg q, e3, J_succ]
  · rw [if_neg h, if_neg h, e3, Int32.add_zero]
end PGUARD
