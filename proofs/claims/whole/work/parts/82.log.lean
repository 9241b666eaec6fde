section PLOG
theorem cellX (n : Nat) {D : St} {w : Nat → Int32} {r : Nat} (hr : r ≤ 60) (h0 : D 0 0 = J r) (h4 : ∀ a c, a < r → c < 5 → D 1 ((r - 1 - a) * 5 + c) = w (82 + 5 * a + c)) {a c : Nat} (ha : a < r) (hc : c < 5) : m_X1_cell n D (J a) (J c) = some (w (82 + 5 * a + c)) := by
  unfold m_X1_cell
  have e1 : ((J r - 1) - J a) * 5 + J c = J ((r - 1 - a) * 5 + c) := by
    rw [J_pred (by omega), J_sub (by omega), show (5 : Int32) = J 5 from rfl, J_mul, J_add]
  simp (disch := omega) only [h0, J_nn, J_le, Nat.not_le.mpr ha, ↓reduceIte, e1, ix_J, J_nat]
  rw [if_pos (by rw [show (5 : Int32) = J 5 from rfl, J_lt (by omega) (by omega)]; exact hc), h4 a c ha hc]
theorem ofLogR (n : Nat) (V : St) {a c : Nat} (ha : a < 60) (hc : c < 5) : m_X12_ofLog n V (J a) (J c) = some (V 1 (82 + 5 * a + c)) := by
  unfold m_X12_ofLog
  have e : (82 + 5 * J a) + J c = J (82 + 5 * a + c) := by rw [show (82 : Int32) = J 82 from rfl, show (5 : Int32) = J 5 from rfl, J_mul, J_add, J_add]
  rw [e, if_pos (J_ix (by omega) (by omega)), J_nat (by omega)]
def lgP (w : Nat → Int32) (x : Int32) (a : Nat) : Bool := decide (w (82 + 5 * a + 1) = x)
def gD (w : Nat → Int32) (x : Int32) (r : Nat) : Nat → Int32
  | 0 => -1
  | d + 1 => if lgP w x (r - (d + 1)) then w (82 + 5 * (r - (d + 1))) else gD w x r d
theorem gD_succ (w : Nat → Int32) (x : Int32) (r d : Nat) : gD w x r (d + 1) = if lgP w x (r - (d + 1)) then w (82 + 5 * (r - (d + 1))) else gD w x r d := by rw [gD]
def nD (w : Nat → Int32) (x : Int32) (r : Nat) : Nat → Nat
  | 0 => 0
  | d + 1 => nD w x r d + if lgP w x (r - (d + 1)) then 1 else 0
theorem nD_succ (w : Nat → Int32) (x : Int32) (r d : Nat) : nD w x r (d + 1) = nD w x r d + if lgP w x (r - (d + 1)) then 1 else 0 := by rw [nD]
theorem nD_cnt (w : Nat → Int32) (x : Int32) (r : Nat) : ∀ d, d ≤ r → nD w x r d + cntN (lgP w x) (r - d) = cntN (lgP w x) r
  | 0, _ => by rw [nD, Nat.sub_zero]; omega
  | d + 1, h => by
    have ih := nD_cnt w x r d (by omega)
    rw [show r - d = (r - (d + 1)) + 1 from by omega, cntN] at ih
    rw [nD_succ]
    omega
theorem rowsX {n : Nat} (hn : 5000 < n) {D : St} {w : Nat → Int32} {r : Nat} (hr : r ≤ 60) (h0 : D 0 0 = J r) (h4 : ∀ a c, a < r → c < 5 → D 1 ((r - 1 - a) * 5 + c) = w (82 + 5 * a + c)) (x : Int32) : m_X1_rowsOf n D x = some (J (cntN (lgP w x) r)) := by
  unfold m_X1_rowsOf
  refine lp_seq (fun k => (J (cntN (lgP w x) k), J k)) r (fun rc k hk => ?_) (fun rc => ?_) (by omega) rfl
  · have hc : m_X1_cell n D (J k) 1 = some (w (82 + 5 * k + 1)) := cellX n hr h0 h4 hk (c := 1) (by omega)
    simp (disch := omega) only [h0, J_le, Nat.not_le.mpr hk, ↓reduceIte, hc, bd_s, J_succ k]
    have e : cntN (lgP w x) (k + 1) = cntN (lgP w x) k + if lgP w x k then 1 else 0 := by rw [cntN]
    rw [e]
    unfold lgP
    by_cases q : w (82 + 5 * k + 1) = x
    · rw [if_pos q, decide_eq_true q, bd_s, J_succ]; rfl
    · rw [if_neg q, decide_eq_false q, bd_s]; rfl
  · simp (disch := omega) only [h0, J_le, Nat.le_refl, ↓reduceIte]
theorem weekOfX {n : Nat} (hn : 5000 < n) {D : St} {w : Nat → Int32} {r : Nat} (hr : r ≤ 60) (h0 : D 0 0 = J r) (h4 : ∀ a c, a < r → c < 5 → D 1 ((r - 1 - a) * 5 + c) = w (82 + 5 * a + c)) (x : Int32) : m_X1_latestWeekOf n D x = some (gD w x r r) := by
  unfold m_X1_latestWeekOf
  obtain ⟨a, e, rfl⟩ := ok_for (body := (fun (rc1 : Int32 → Option (Int32)) (x1l : Int32) =>
(if (D 0 0) ≤ x1l then
some (-1)
else
bd (m_X1_cell n D x1l 1) (fun t2 =>
(if t2 = x then
bd (m_X1_cell n D x1l 0) (fun t3 =>
some t3)
else
rc1 (x1l + 1)))))) (Q := fun a => a = gD w x r r) r (fun k y => y = J k ∧ gD w x r (r - k) = gD w x r r) (fun rc k y hk hy ih => by
      rw [hy.1]
      have hc : m_X1_cell n D (J k) 1 = some (w (82 + 5 * k + 1)) := cellX n hr h0 h4 hk (c := 1) (by omega)
      have hc0 : m_X1_cell n D (J k) 0 = some (w (82 + 5 * k + 0)) := cellX n hr h0 h4 hk (c := 0) (by omega)
      simp (disch := omega) only [h0, J_le, Nat.not_le.mpr hk, ↓reduceIte, hc, hc0, bd_s, J_succ k]
      have hg := gD_succ w x r (r - k - 1)
      rw [show r - k - 1 + 1 = r - k from by omega, show r - (r - k) = k from by omega] at hg
      rw [hy.2] at hg
      unfold lgP at hg
      by_cases q : w (82 + 5 * k + 1) = x
      · rw [decide_eq_true q, if_pos rfl] at hg
        rw [if_pos q, hg]; exact ok_some rfl
      · rw [decide_eq_false q, if_neg (by simp)] at hg
        rw [if_neg q]
        exact ih _ ⟨rfl, by rw [show r - (k + 1) = r - k - 1 from by omega]; exact hg.symm⟩) (fun rc y hy => by
      rw [hy.1]
      simp (disch := omega) only [h0, J_le, Nat.le_refl, ↓reduceIte]
      refine ok_some ?_
      rw [← hy.2, Nat.sub_self]; rfl) (n := n) (by omega) (x := (0 : Int32)) ⟨rfl, rfl⟩
  exact e
theorem ledR {n : Nat} (hn : 5000 < n) (V : St) {r : Nat} (hr : r ≤ 60) (h0 : V 1 10 = J r) (x : Int32) : lp (fun (rc6 : Int32 × Int32 × Int32 → Option (Int32 × Int32)) (x6l : Int32 × Int32 × Int32) =>
(if x6l.2.2 < 0 then
some (x6l.1, x6l.2.1)
else
bd (m_X12_ofLog n V x6l.2.2 1) (fun t7 =>
bd ((if t7 = x then
bd (m_X12_ofLog n V x6l.2.2 0) (fun t9 =>
some ((x6l.1 + 1), t9))
else
some (x6l.1, x6l.2.1))) (fun (t8 : Int32 × Int32) =>
rc6 (t8.1, t8.2, (x6l.2.2 + (-1))))))) n (0, (-1), V 1 10 - 1) = some (J (cntN (lgP (V 1) x) r), gD (V 1) x r r) := by
  have hfin : cntN (lgP (V 1) x) r = nD (V 1) x r r := by
    have := nD_cnt (V 1) x r r (Nat.le_refl _)
    rw [Nat.sub_self] at this
    have e0 : cntN (lgP (V 1) x) 0 = 0 := by rw [cntN]
    omega
  rw [hfin]
  refine lp_seq (fun i => (J (nD (V 1) x r i), gD (V 1) x r i, (if i < r then J (r - 1 - i) else -1))) r (fun rc i hi => ?_) (fun rc => ?_) (by omega) ?_
  · have hc : m_X12_ofLog n V (J (r - 1 - i)) 1 = some (V 1 (82 + 5 * (r - 1 - i) + 1)) := ofLogR n V (c := 1) (by omega) (by omega)
    have hc0 : m_X12_ofLog n V (J (r - 1 - i)) 0 = some (V 1 (82 + 5 * (r - 1 - i) + 0)) := ofLogR n V (c := 0) (by omega) (by omega)
    have e1 : J (r - 1 - i) + (-1) = if i + 1 < r then J (r - 1 - (i + 1)) else -1 := by
      by_cases q : i + 1 < r
      · rw [if_pos q, J_neg1 _ (by omega), show r - 1 - i - 1 = r - 1 - (i + 1) from by omega]
      · rw [if_neg q, show r - 1 - i = 0 from by omega]; decide
    have e2 : (if i < r then J (r - 1 - i) else -1) = J (r - 1 - i) := if_pos hi
    have hg := gD_succ (V 1) x r i
    have hs := nD_succ (V 1) x r i
    rw [show r - (i + 1) = r - 1 - i from by omega] at hg hs
    simp (disch := omega) only [e2, J_nn, ↓reduceIte, hc, hc0, bd_s, e1]
    rw [hg, hs]
    by_cases q : V 1 (82 + 5 * (r - 1 - i) + 1) = x
    · have q' : lgP (V 1) x (r - 1 - i) = true := by unfold lgP; rw [decide_eq_true q]
      rw [if_pos q, bd_s, q', J_succ]
      rfl
    · have q' : lgP (V 1) x (r - 1 - i) = false := by unfold lgP; rw [decide_eq_false q]
      rw [if_neg q, bd_s, q']
      rfl
  · have e : ((-1 : Int32) < 0) := by decide
    have e2 : (if r < r then J (r - 1 - r) else (-1 : Int32)) = -1 := if_neg (by omega)
    simp only [e2, e, ↓reduceIte]
  · rw [h0]
    have e : J r - 1 = if 0 < r then J (r - 1 - 0) else -1 := by
      by_cases q : 0 < r
      · rw [if_pos q, J_pred q]; rfl
      · rw [if_neg q, show r = 0 from by omega]; decide
    rw [e]; rfl
-- the past
def act (V : St) (i : Nat) : Nat → Int32 := fun k => V 5 (382 * i + k)
def PR (p : St) (H D : Nat → St) (V : St) : Prop := ∃ s f, s ≤ 12 ∧ f < 12 ∧ p 0 0 = J s ∧ p 1 0 = J f ∧ V 7 0 = J s ∧ ∀ i, i < s → HR (H ((f + i) % 12)) (act V i) ∧ DR (D ((f + i) % 12)) (act V i) ∧ V 5 (382 * i + 2) = V 1 2 ∧ V 5 (382 * i + 3) = V 1 3
theorem rem12 {a : Nat} (h : a < 24) : x_rem (J a) 12 = J (a % 12) := by
  have : ∀ a : Nat, a < 24 → x_rem (J a) 12 = J (a % 12) := by decide +kernel
  exact this a h
theorem remX {n : Nat} (hn : 5000 < n) {p v d : St} {H D : Nat → St} {V : St} (hP : PR p H D V) (hR : HR v (V 1)) (hD : DR d (V 1)) :
    Ok (m_X8_remember n p H D v d) (fun r => Ok (m_X12_remembers n V) (fun V' => Fr [5, 7] V V' ∧ PR r.1 r.2.1 r.2.2 V')) := by
  obtain ⟨s, f, hs, hf, p0, p1, h7, hall⟩ := hP
  obtain ⟨m, hm⟩ : ∃ m, m = min s 11 := ⟨_, rfl⟩
  obtain ⟨g, hg⟩ : ∃ g, g = if s = 12 then (f + 1) % 12 else f := ⟨_, rfl⟩
  have hg12 : g < 12 := by rw [hg]; split <;> omega
  unfold m_X8_remember
  refine ok_bd2 (P := fun t => t 0 0 = J m ∧ t 1 0 = J g) ?_ ?_
  · by_cases h : s = 12
    · rw [if_pos (by rw [p0, h]; decide), nm_s, nm_s]
      refine ok_some ⟨?_, ?_⟩
      · rw [su_e, upd_e, su_n _ _ _ _ (by decide), p0, J_pred (by omega)]; congr 1; omega
      · rw [su_n _ _ _ _ (by decide), su_e, upd_e, p1, J_succ, rem12 (by omega), hg, if_pos h]
    · rw [if_neg (by rw [p0, show (12 : Int32) = J 12 from rfl, J_inj (by omega) (by omega)]; exact h)]
      exact ok_some ⟨by rw [p0]; congr 1; omega, by rw [p1, hg, if_neg h]⟩
  · rintro t ⟨t0, t1⟩
    rw [nm_s, t0, t1, J_add, rem12 (by omega), if_pos (J_ix (by omega) (by omega)), J_nat (by omega)]
    refine ok_bd2 (copyHR hn _ hR) ?_
    rintro th hth
    refine ok_bd2 (copyD n _ hD) ?_
    rintro td htd
    rw [nm_s]
    refine ok_some ?_
    refine (remR hn V hs h7).mono ?_
    rintro V' ⟨hF, g7, g5⟩
    refine ⟨hF, m + 1, g, by omega, hg12, by dsimp only; rw [su_e, upd_e, J_succ], by dsimp only; rw [su_n _ _ _ _ (by decide)]; exact t1, by rw [g7, hm], fun i hi => ?_⟩
    have e1 : V' 1 = V 1 := hF 1 (by simp)
    rw [e1]
    by_cases hi2 : i = m
    · subst hi2
      have ea : ∀ k, k < 382 → V' 5 (382 * i + k) = V 1 k := fun k hk => by
        rw [g5, ← hm]; unfold rmN; rw [if_pos (by omega)]; congr 1; omega
      unfold va_up
      simp only [if_true]
      exact ⟨hth.eq (fun k hk => ea k (by omega)), htd.eq (fun k hk => ea k hk), ea 2 (by omega), ea 3 (by omega)⟩
    · have hidx : ¬ (g + i) % 12 = (g + m) % 12 := by omega
      unfold va_up
      simp only [hidx, if_false]
      by_cases h : s = 12
      · have ea : ∀ k, k < 382 → V' 5 (382 * i + k) = V 5 (382 * (i + 1) + k) := fun k hk => by
          rw [g5, ← hm, if_pos h]; unfold rmN; rw [if_neg (by omega)]; unfold shA; rw [if_pos (by omega)]; congr 1; omega
        have hgi : (g + i) % 12 = (f + (i + 1)) % 12 := by rw [hg, if_pos h]; omega
        obtain ⟨a1, a2, a3, a4⟩ := hall (i + 1) (by omega)
        rw [hgi]
        exact ⟨a1.eq (fun k hk => ea k (by omega)), a2.eq (fun k hk => ea k hk), by rw [ea 2 (by omega)]; exact a3, by rw [ea 3 (by omega)]; exact a4⟩
      · have ea : ∀ k, k < 382 → V' 5 (382 * i + k) = V 5 (382 * i + k) := fun k hk => by
          rw [g5, ← hm, if_neg h]; unfold rmN; rw [if_neg (by omega)]
        have hgi : (g + i) % 12 = (f + i) % 12 := by rw [hg, if_neg h]
        obtain ⟨a1, a2, a3, a4⟩ := hall i (by omega)
        rw [hgi]
        exact ⟨a1.eq (fun k hk => ea k (by omega)), a2.eq (fun k hk => ea k hk), by rw [ea 2 (by omega)]; exact a3, by rw [ea 3 (by omega)]; exact a4⟩
/-- only two cells of the row matter to the past -/
theorem PR.eq {p : St} {H D : Nat → St} {V V' : St} (h : PR p H D V) (h5 : V' 5 = V 5) (h7 : V' 7 0 = V 7 0) (h2 : V' 1 2 = V 1 2) (h3 : V' 1 3 = V 1 3) : PR p H D V' := by
  obtain ⟨s, f, hs, hf, p0, p1, e7, hall⟩ := h
  refine ⟨s, f, hs, hf, p0, p1, by rw [h7]; exact e7, fun i hi => ?_⟩
  have ea : act V' i = act V i := by unfold act; rw [h5]
  rw [ea, h5, h2, h3]; exact hall i hi
theorem PR.forget (p : St) (H D : Nat → St) {V : St} (hf : ∃ f, f < 12 ∧ p 1 0 = J f) (p0 : p 0 0 = 0) (h7 : V 7 0 = 0) : PR p H D V := by
  obtain ⟨f, hf, p1⟩ := hf
  exact ⟨0, f, by omega, hf, p0, p1, h7, fun i hi => absurd hi (by omega)⟩
theorem PR.f {p : St} {H D : Nat → St} {V : St} (h : PR p H D V) : ∃ f, f < 12 ∧ p 1 0 = J f := by obtain ⟨s, f, hs, hf, p0, p1, -⟩ := h; exact ⟨f, hf, p1⟩
theorem undoX {n : Nat} (hn : 5000 < n) {p v d : St} {H D : Nat → St} {V : St} (hP : PR p H D V) (hR : HR v (V 1)) (hD : DR d (V 1)) {L : St} (hL : LR L (V 1)) :
    ∃ r p' v' d' V', m_X8_restore n p H D v d = some (r, p', v', d') ∧ isb r ∧ m_X12_undo n V = some (r, V') ∧ V' 0 0 = 0 ∧ Fr [0, 1, 7] V V' ∧ PR p' H D V' ∧ HR v' (V' 1) ∧ DR d' (V' 1) ∧ LR L (V' 1) ∧ V' 1 2 = V 1 2 := by
  obtain ⟨s, f, hs, hf, p0, p1, h7, hall⟩ := hP
  unfold m_X8_restore
  rw [undoR hn V hs h7, p0]
  by_cases h : s = 0
  · subst h
    rw [if_pos rfl, if_pos (show J 0 = 0 from rfl)]
    refine ⟨0, p, v, d, su V 0 0 0, rfl, .inl rfl, rfl, su00 V 0, (Fr.rfl _ _).put (by simp) _ _, ⟨0, f, by omega, hf, p0, p1, by rw [su_n _ _ _ _ (by decide)]; exact h7, fun i hi => absurd hi (by omega)⟩, ?_⟩
    rw [su01]
    exact ⟨hR, hD, hL, rfl⟩
  · obtain ⟨m, rfl⟩ : ∃ m, s = m + 1 := ⟨s - 1, by omega⟩
    obtain ⟨a1, a2, a3, a4⟩ := hall m (by omega)
    have t1 : su p 0 0 (J (m + 1) - 1) 1 0 = J f := by rw [su_n _ _ _ _ (by decide)]; exact p1
    have t0 : su p 0 0 (J (m + 1) - 1) 0 0 = J m := by rw [su00, J_pred (by omega)]; rfl
    obtain ⟨v', ev, hv⟩ := copyHR hn v a1
    obtain ⟨d', ed, hd⟩ := copyD n d a2
    rw [if_neg (show ¬ J (m + 1) = 0 by rw [show (0 : Int32) = J 0 from rfl, J_inj (by omega) (by omega)]; omega), if_neg (by omega)]
    simp only [nm_s]
    rw [t1, t0, J_add, rem12 (by omega), if_pos (J_ix (by omega) (by omega)), J_nat (by omega), ev, bd_s, ed, bd_s]
    have e1 : sA (su (su V 0 0 0) 7 0 (J (m + 1 - 1))) 1 (unN (V 5) (V 1) (m + 1 - 1) 382) 1 = unN (V 5) (V 1) m 382 := sA_e _ _ _
    have eun : ∀ k, k < 382 → unN (V 5) (V 1) m 382 k = act V m k := fun k hk => by unfold unN act; rw [if_pos hk]
    have eun2 : ∀ k, 382 ≤ k → unN (V 5) (V 1) m 382 k = V 1 k := fun k hk => by unfold unN; rw [if_neg (by omega)]
    have u2 : unN (V 5) (V 1) m 382 2 = V 1 2 := by rw [eun 2 (by omega)]; exact a3
    have u3 : unN (V 5) (V 1) m 382 3 = V 1 3 := by rw [eun 3 (by omega)]; exact a4
    refine ⟨1, _, v', d', _, rfl, .inr rfl, rfl, ?_, ?_, ?_, ?_, ?_, ?_, ?_⟩
    · rw [sA_n _ _ _ (by decide), su_n _ _ _ _ (by decide), su00]
    · exact (((Fr.rfl _ _).put (by simp) _ _).put (by simp) _ _).row (by simp) _
    · refine ⟨m, f, by omega, hf, t0, t1, ?_, fun i hi => ?_⟩
      · rw [sA_n _ _ _ (by decide), su_e, upd_e]; rfl
      · have h5 : sA (su (su V 0 0 0) 7 0 (J (m + 1 - 1))) 1 (unN (V 5) (V 1) (m + 1 - 1) 382) 5 = V 5 := by rw [sA_n _ _ _ (by decide), su_n _ _ _ _ (by decide), su_n _ _ _ _ (by decide)]
        obtain ⟨b1, b2, b3, b4⟩ := hall i (by omega)
        have ea : act (sA (su (su V 0 0 0) 7 0 (J (m + 1 - 1))) 1 (unN (V 5) (V 1) (m + 1 - 1) 382)) i = act V i := by unfold act; rw [h5]
        rw [ea, h5, e1, u2, u3]; exact ⟨b1, b2, b3, b4⟩
    · rw [e1]; exact hv.eq (fun k hk => eun k (by omega))
    · rw [e1]; exact hd.eq (fun k hk => eun k hk)
    · rw [e1]; exact hL.eq (fun k a b => eun2 k a) u3
    · rw [e1]; exact u2
end PLOG
