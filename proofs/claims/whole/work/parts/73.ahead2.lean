section PAHEAD2
theorem ageP_I {u : Nat → Int32} (hI : WInv u) (hL : LWo u) {p : Nat} (hp : p < nP u) : WInv (ageP u p) := by
  have h5 := hI.p5
  have e1 : nP (upd u (13 + 4 * p) (newA u p)) = nP u := by unfold nP; rw [upd_n _ _ _ (by omega)]
  exact (hI.u_age hp _ (newA_b hI hL hp)).u_broken (by rw [e1]; exact hp) _ (newB_b u p)
theorem ageP_P (u : Nat → Int32) (p : Nat) : nP (ageP u p) = nP u := by unfold ageP nP; rw [upd_n _ _ _ (by omega), upd_n _ _ _ (by omega)]
theorem payP_P (u : Nat → Int32) (p : Nat) : nP (payP u p) = nP u := by unfold payP nP; rw [upd_n _ _ _ (by omega), upd_n _ _ _ (by omega)]
theorem payP_hi (u : Nat → Int32) {p : Nat} (hp : p < 5) {k : Nat} (h : 82 ≤ k ∨ k = 3) : payP u p k = u k := by unfold payP; rw [upd_n _ _ _ (by omega), upd_n _ _ _ (by omega)]
theorem ageP_hi (u : Nat → Int32) {p : Nat} (hp : p < 5) {k : Nat} (h : 82 ≤ k ∨ k = 3) : ageP u p k = u k := by unfold ageP; rw [upd_n _ _ _ (by omega), upd_n _ _ _ (by omega)]
theorem ageG {n : Nat} (hn : 5000 < n) {u : Nat → Int32} (hI : WInv u) {v L : St} (hB : HB v u) (hL : LR L u) {p : Nat} (hp : p < nP u) (hF : HF v u (2 * p)) (h18 : v 18 (2 * p + 1) = loadS u (2 * p + 1)) :
    Ok (m_X3_growOld n v L (J p)) (fun r => HB r.1 (ageP u p) ∧ Fr [6] L r.2 ∧ Fr [10, 12] v r.1) := by
  have h5 := hI.p5
  have hLo := hL.o
  unfold m_X3_growOld ageP
  simp (disch := omega) only [ix_J, ↓reduceIte, J_nat]
  rw [hB.broken hp]
  by_cases hb : u (15 + 4 * p) = 1
  · rw [hb, if_neg (by decide)]
    refine ok_some ⟨?_, Fr.rfl _ _, Fr.rfl _ _⟩
    have e1 : u (13 + 4 * p) = newA u p := by unfold newA; rw [if_pos hb]
    have e2 : u (15 + 4 * p) = newB u p := by unfold newB; rw [if_pos hb]; exact hb
    dsimp only
    rw [upd_same _ e1, upd_same _ e2]; exact hB
  · have hb0 : u (15 + 4 * p) = 0 := by
      rcases (hI.pl hp).2.2.2 with h | h
      · exact h
      · exact absurd h hb
    rw [hb0, if_pos rfl]
    refine ok_bd2 (XagesBy1 hn hL hF (by omega)) ?_
    rintro ⟨a, L2⟩ ⟨g, ga⟩
    dsimp only at g ga ⊢
    subst ga
    rw [nm_s, hB.age hp]
    have en : x_min 99 (u (13 + 4 * p) + agesS u p) = newA u p := by unfold newA; rw [if_neg hb]
    rw [en]
    have hB2 := hB.u_age hI hp (newA u p)
    have hI2 := hI.u_age hp (newA u p) (newA_b hI hLo hp)
    have hf3 : Fr [10, 12] v (su v 10 p (newA u p)) := (Fr.rfl _ _).put (by simp) _ _
    have ep : p < nP (upd u (13 + 4 * p) (newA u p)) := by
      rw [show nP (upd u (13 + 4 * p) (newA u p)) = nP u from by unfold nP; rw [upd_n _ _ _ (by omega)]]; exact hp
    have u18 : su v 10 p (newA u p) 18 (2 * p) = loadS u (2 * p) := by rw [su_n _ _ _ _ (by decide)]; exact hF.2.1
    have u19 : su v 10 p (newA u p) 18 (2 * p + 1) = loadS u (2 * p + 1) := by rw [su_n _ _ _ _ (by decide)]; exact h18
    have u10 : su v 10 p (newA u p) 10 p = newA u p := by rw [su_e, upd_e]
    have u9 : su v 10 p (newA u p) 9 p = u (12 + 4 * p) := by rw [su_n _ _ _ _ (by decide), hB.bears hp]
    generalize su v 10 p (newA u p) = U at hB2 hf3 u18 u19 u10 u9 ⊢
    have hbm : m_X3_bearsMore n U (J p) = some (u (12 + 4 * p) - newA u p - loadS u (2 * p) - loadS u (2 * p + 1)) := by
      unfold m_X3_bearsMore
      simp (disch := omega) only [J_dbl, J_dbl1, ix_J, ↓reduceIte, J_nat, u18, u19, u10, u9]
    rw [hbm, bd_s]
    obtain ⟨a, ea, -, ha⟩ := newA_b hI hLo hp
    obtain ⟨b, eb, -, hb2⟩ := (hI.pl hp).1
    obtain ⟨x, hx, ex⟩ := load_b hI (h := 2 * p) (by omega)
    obtain ⟨y, hy, ey⟩ := load_b hI (h := 2 * p + 1) (by omega)
    have hc := cmpB ha hb2 hx hy
    rw [← ea, ← eb, ← ex, ← ey] at hc
    by_cases hq : loadS u (2 * p) + loadS u (2 * p + 1) ≤ u (12 + 4 * p) - newA u p
    · rw [if_pos (hc.mpr hq), nm_s]
      have eB : newB u p = zb 0 := by unfold newB; rw [if_neg hb, if_pos hq]; decide
      rw [eB]
      exact ok_some ⟨hB2.u_broken hI2 ep _, g, hf3.put (by simp) _ _⟩
    · rw [if_neg (fun h => hq (hc.mp h)), nm_s]
      have eB : newB u p = zb 1 := by unfold newB; rw [if_neg hb, if_neg hq]; decide
      rw [eB]
      exact ok_some ⟨hB2.u_broken hI2 ep _, g, hf3.put (by simp) _ _⟩
theorem evoG {n : Nat} (hn : 5000 < n) {u : Nat → Int32} (hI : WInv u) {v L : St} (hB : HB v u) (hL : LR L u) {p : Nat} (hp : p < nP u) (hF0 : HF v u (2 * p)) (hF1 : HF v u (2 * p + 1)) :
    Ok (m_X3_payAndGrowOld n v L (J p)) (fun r => HB r.1 (ageP (payP u p) p) ∧ Fr [6] L r.2 ∧ Fr [10, 12, 13] v r.1) := by
  have h5 := hI.p5
  unfold m_X3_payAndGrowOld
  refine ok_bd2 (payG hn hI hB hL hp hF0 hF1) ?_
  rintro ⟨v1, L1⟩ ⟨b1, f1, g1⟩
  dsimp only at b1 f1 g1 ⊢
  have hA := payP_AG u p p (by omega) (by omega)
  have hL1 : LR L1 (payP u p) := (hL.fr f1).eq (fun k a b => payP_hi u (by omega) (.inl (by omega))) (payP_hi u (by omega) (.inr rfl))
  refine ok_bd2 (ageG hn (payP_I hI hp) b1 hL1 (by rw [payP_P]; exact hp) ((hF0.fr g1 (by simp)).ag hA hI.t10 (by omega)) ?_) ?_
  · rw [g1 18 (by simp), hF1.2.1, hA.load hI.t10 (by omega)]
  · rintro ⟨v2, L2⟩ ⟨b2, f2, g2⟩
    exact ok_some ⟨b2, f1.tr f2, (g1.mono (by simp)).tr (g2.mono (by simp))⟩
def itN (f : (Nat → Int32) → (Nat → Int32)) (w : Nat → Int32) : Nat → (Nat → Int32)
  | 0 => w
  | k + 1 => f (itN f w k)
theorem calmW_P (w : Nat → Int32) : nP (calmW w) = nP w := by
  have : nP (calmW w) = nP (ageTo (payTo w (2 * nP w)) (nP w)) := by unfold calmW weekW nP; rw [upd_n _ _ _ (by omega)]
  rw [this, ageTo_P, payTo_P]
theorem calm_it {w : Nat → Int32} (hI : WInv w) (hL : LWo w) : ∀ k, WInv (itN calmW w k) ∧ LWo (itN calmW w k) ∧ nP (itN calmW w k) = nP w ∧ (∀ j, 82 ≤ j → itN calmW w k j = w j)
  | 0 => ⟨hI, hL, rfl, fun _ _ => rfl⟩
  | k + 1 => by
    obtain ⟨a, b, c, d⟩ := calm_it hI hL k
    refine ⟨calmW_I a b, calmW_L a b, ?_, fun j hj => ?_⟩
    · show nP (calmW (itN calmW w k)) = _
      rw [calmW_P, c]
    · show calmW (itN calmW w k) j = _
      rw [calmW_hi a (.inl hj), d j hj]
theorem aheadR {n : Nat} (hn : 5000 < n) (V : St) (hI : WInv (V 1)) (hL : LWo (V 1)) {m : Nat} (hm : m ≤ 100) : Ok (m_X12_goesAhead n V (J m)) (fun r => r 1 = itN calmW (V 1) m ∧ Fr [1, 17] (sA V 4 (cpN (V 1) (V 4) 382)) r) := by
  unfold m_X12_goesAhead
  rw [keepR hn, bd_s]
  refine ok_forE (fun k x => (J k, x)) m (fun k x => x 1 = itN calmW (V 1) k ∧ Fr [1, 17] (sA V 4 (cpN (V 1) (V 4) 382)) x) ?_ ?_ (by omega) _ rfl ⟨keep_1 V, Fr.rfl _ _⟩
  · rintro rc k x hk ⟨hx, hf⟩ ih
    obtain ⟨a, b, -, -⟩ := calm_it hI hL k
    simp (disch := omega) only [J_le, Nat.not_le.mpr hk, ↓reduceIte, J_succ k]
    refine ok_bd2 (calmR hn x (by rw [hx]; exact a) (by rw [hx]; exact b)) ?_
    rintro V' ⟨e, g⟩
    exact ih V' ⟨by rw [e, hx]; rfl, hf.tr g⟩
  · rintro rc x hx
    simp (disch := omega) only [J_le, Nat.le_refl, ↓reduceIte]
    exact ok_some hx
theorem evoW_ok {n : Nat} (hn : 5000 < n) {u : Nat → Int32} {v L : St} (hR : HR v u) (hL : LR L u) {p : Nat} (hp : p < nP u) :
    Ok (bd (m_X3_payAndGrowOld n v L (J p)) (fun t3 => bd (m_X3_turnWeek n t3.1) (fun t4 => some (t3.2, t4)))) (fun r => HR r.2 (evoW u p) ∧ Fr [6] L r.1) := by
  have h5 := hR.1.p5
  refine ok_bd2 (evoG hn hR.1 hR.2.1 hL hp (hR.hf (by omega)) (hR.hf (by omega))) ?_
  rintro ⟨v1, L1⟩ ⟨b1, f1, -⟩
  dsimp only at b1 f1 ⊢
  have hL1 : LWo (payP u p) := (hL.o).eq (fun k a b => payP_hi u (by omega) (.inl (by omega))) (payP_hi u (by omega) (.inr rfl))
  refine ok_bd2 (turnX hn (ageP_I (payP_I hR.1 hp) hL1 (by rw [payP_P]; exact hp)) b1) ?_
  rintro v2 h2
  exact ok_some ⟨h2, f1⟩
theorem evoW_hi (u : Nat → Int32) {p : Nat} (hp : p < 5) {k : Nat} (h : 82 ≤ k ∨ k = 3) : evoW u p k = u k := by
  unfold evoW weekW; rw [upd_n _ _ _ (by omega), ageP_hi _ hp h, payP_hi _ hp h]
theorem evoW_P (u : Nat → Int32) (p : Nat) : nP (evoW u p) = nP u := by
  have : nP (evoW u p) = nP (ageP (payP u p) p) := by unfold evoW weekW nP; rw [upd_n _ _ _ (by omega)]
  rw [this, ageP_P, payP_P]
theorem lookX {n : Nat} (hn : 5000 < n) {v0 v L s : St} {w : Nat → Int32} (hR : HR v w) (hL : LR L w) {p : Nat} (hp : p < nP w) {m : Nat} (hm : m ≤ 100) :
    Ok (m_X11_lookAhead n v0 v L s (J p) (J m)) (fun r => ∃ u, HR r.2 u ∧ SM p (itN calmW w m) u ∧ Fr [6] L r.1) := by
  have h5 := hR.1.p5
  unfold m_X11_lookAhead
  refine ok_bd2 (copyHR hn s hR) ?_
  rintro s1 hs1
  refine ok_forE (fun k (x : St × St) => (J k, x.1, x.2)) m (fun k x => ∃ u, HR x.2 u ∧ SM p (itN calmW w k) u ∧ Fr [6] L x.1 ∧ LR L u) ?_ ?_ (by omega) (L, s1) rfl ⟨w, hs1, SM.rfl p w, Fr.rfl _ _, hL⟩
  · rintro rc k ⟨L', x⟩ hk ⟨u, hu, hS, hf, hLu⟩ ih
    dsimp only at hu hf
    obtain ⟨a, b, c, d⟩ := calm_it hR.1 hL.o k
    simp (disch := omega) only [J_le, Nat.not_le.mpr hk, ↓reduceIte, J_succ k]
    have hpu : p < nP u := by rw [hS.1.eqP, c]; exact hp
    have key := evoW_ok hn hu (hLu.fr hf) hpu
    obtain ⟨⟨r1, r2⟩, e, k1, k2⟩ := key
    -- the two binds
    have hb : ∀ {β : Type} (K : St × St → Option β), bd (m_X3_payAndGrowOld n x L' (J p)) (fun t3 => bd (m_X3_turnWeek n t3.1) (fun t4 => K (t3.2, t4))) = bd (bd (m_X3_payAndGrowOld n x L' (J p)) (fun t3 => bd (m_X3_turnWeek n t3.1) (fun t4 => some (t3.2, t4)))) K := by
      intro β K
      cases m_X3_payAndGrowOld n x L' (J p) with
      | none => rfl
      | some t =>
        simp only [bd_s]
        cases m_X3_turnWeek n t.1 with
        | none => rfl
        | some t => simp only [bd_s]
    have hgoal := hb (fun r => rc (J (k + 1), r.1, r.2))
    dsimp only at hgoal
    rw [hgoal, e, bd_s]
    refine ih (r1, r2) ⟨evoW u p, k1, evo_calm a b (by rw [c]; exact hp) hS hLu.o, hf.tr k2, hLu.eq (fun j a b => evoW_hi u (by omega) (.inl (by omega))) (evoW_hi u (by omega) (.inr rfl))⟩
  · rintro rc ⟨L', x⟩ ⟨u, hu, hS, hf, -⟩
    simp (disch := omega) only [J_le, Nat.le_refl, ↓reduceIte]
    exact ok_some ⟨u, hu, hS, hf⟩
-- the first time
def fstN (P : Nat → Bool) : Nat → Nat
  | 0 => 0
  | N + 1 => if fstN P N < N then fstN P N else if P N then N else N + 1
theorem fstN_succ (P : Nat → Bool) (N : Nat) : fstN P (N + 1) = if fstN P N < N then fstN P N else if P N then N else N + 1 := rfl
theorem fstN_le (P : Nat → Bool) : ∀ N, fstN P N ≤ N
  | 0 => Nat.le_refl _
  | N + 1 => by
    unfold fstN
    split
    · omega
    · split <;> omega
theorem fstN_st (P : Nat → Bool) {k : Nat} (h : fstN P k < k) : ∀ d, fstN P (k + d) = fstN P k
  | 0 => rfl
  | d + 1 => by
    have ih := fstN_st P h d
    rw [show k + (d + 1) = (k + d) + 1 from rfl, fstN_succ, if_pos (by rw [ih]; omega), ih]
theorem fstN_st' (P : Nat → Bool) {k N : Nat} (h : fstN P k < k) (hk : k ≤ N) : fstN P N = fstN P k := by
  have := fstN_st P h (N - k)
  rwa [show k + (N - k) = N from by omega] at this
theorem fstN_no (P : Nat → Bool) {k : Nat} (h : ¬ fstN P k < k) : fstN P (k + 1) = if P k then k else k + 1 := by
  unfold fstN; rw [if_neg h]
theorem fstN_congr {P Q : Nat → Bool} : ∀ {N : Nat}, (∀ k, k < N → P k = Q k) → fstN P N = fstN Q N
  | 0, _ => rfl
  | N + 1, h => by
    unfold fstN
    rw [fstN_congr (fun k hk => h k (by omega)), h N (by omega)]
/-- a loop that ends at the first time -/
theorem ok_fst {σ ρ α : Type} {body : (σ → Option ρ) → σ → Option ρ} {Q : ρ → Prop} (enc : Nat → α → σ) (P : Nat → Bool) (N : Nat) (I : Nat → α → Prop)
    (step : ∀ (rc : σ → Option ρ) (k : Nat) (a : α), k < N → I k a → fstN P k = k → (P k = false → ∀ a', I (k + 1) a' → Ok (rc (enc (k + 1) a')) Q) → (P k = true → fstN P N = k) → Ok (body rc (enc k a)) Q)
    (last : ∀ (rc : σ → Option ρ) (a : α), I N a → fstN P N = N → Ok (body rc (enc N a)) Q) {n : Nat} (hn : N < n) {x : σ} (a0 : α) (hx : x = enc 0 a0) (h0 : I 0 a0) : Ok (lp body n x) Q := by
  refine ok_forE enc N (fun k a => I k a ∧ fstN P k = k) (fun rc k a hk hI ih => ?_) (fun rc a hI => last rc a hI.1 hI.2) hn a0 hx ⟨h0, rfl⟩
  have e := fstN_no P (k := k) (by rw [hI.2]; omega)
  refine step rc k a hk hI.1 hI.2 (fun hp a' h' => ih a' ⟨h', ?_⟩) (fun hp => ?_)
  · rw [e, hp]; rfl
  · rw [hp, if_pos rfl] at e
    rw [fstN_st' P (k := k + 1) (by rw [e]; omega) (by omega), e]
end PAHEAD2
