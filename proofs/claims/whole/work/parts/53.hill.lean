section PHILL
def HB (v : St) (w : Nat → Int32) : Prop :=
  v 0 0 = w 0 ∧ v 1 0 = w 1 ∧ v 2 0 = w 5 ∧ v 3 0 = w 6 ∧ v 4 0 = w 7 ∧ v 5 0 = w 8 ∧ v 6 0 = w 9 ∧ v 7 0 = w 4 ∧ v 8 0 = w 11 ∧
  (∀ p, p < nP w → v 9 p = w (12 + 4 * p) ∧ v 10 p = w (13 + 4 * p) ∧ v 11 p = w (14 + 4 * p) ∧ v 12 p = w (15 + 4 * p)) ∧
  (∀ h, h < 2 * nP w → v 13 h = w (32 + 2 * h) ∧ v 14 h = w (33 + 2 * h)) ∧
  (∀ t, t < nT w → v 15 t = w (52 + 3 * t) ∧ v 16 t = w (53 + 3 * t) ∧ v 17 t = w (54 + 3 * t))
def HW (v : St) (w : Nat → Int32) : Prop := ∀ h, h < 2 * nP w → v 18 h = loadS w h ∧ v 19 h = heightS w h
def HR (v : St) (w : Nat → Int32) : Prop := WInv w ∧ HB v w ∧ HW v w
/-- but for some fields the same -/
def Fr (S : List Nat) (v v' : St) : Prop := ∀ f, f ∉ S → v' f = v f
theorem Fr.rfl (S : List Nat) (v : St) : Fr S v v := fun _ _ => by trivial
theorem Fr.tr {S : List Nat} {a b c : St} (h : Fr S a b) (k : Fr S b c) : Fr S a c := fun f hf => (k f hf).trans (h f hf)
theorem Fr.put {S : List Nat} {a b : St} (h : Fr S a b) {f : Nat} (hf : f ∈ S) (k : Nat) (x : Int32) : Fr S a (su b f k x) := fun g hg => by
  have hne : g ≠ f := fun e => hg (by rw [e]; exact hf)
  rw [su_n _ _ _ _ hne]; exact h g hg
theorem Fr.row {S : List Nat} {a b : St} (h : Fr S a b) {f : Nat} (hf : f ∈ S) (x : Nat → Int32) : Fr S a (sA b f x) := fun g hg => by
  have hne : g ≠ f := fun e => hg (by rw [e]; exact hf)
  rw [sA_n _ _ _ hne]; exact h g hg
theorem WInv.p {w : Nat → Int32} (h : WInv w) : w 0 = J (nP w) := h.1.1
theorem WInv.p5 {w : Nat → Int32} (h : WInv w) : nP w ≤ 5 := h.1.2
theorem WInv.t {w : Nat → Int32} (h : WInv w) : w 1 = J (nT w) := h.2.1.1
theorem WInv.t10 {w : Nat → Int32} (h : WInv w) : nT w ≤ 10 := h.2.1.2
theorem WInv.step {w : Nat → Int32} (h : WInv w) : inB (w 6) 1 40 := h.2.2.1
theorem WInv.snow {w : Nat → Int32} (h : WInv w) : inB (w 5) 0 99 := h.2.2.2.1
theorem WInv.pl {w : Nat → Int32} (h : WInv w) {p : Nat} (hp : p < nP w) : inB (w (12 + 4 * p)) 10 400 ∧ inB (w (13 + 4 * p)) 0 99 ∧ isb (w (14 + 4 * p)) ∧ isb (w (15 + 4 * p)) := h.2.2.2.2.1 p hp
theorem WInv.ho {w : Nat → Int32} (h : WInv w) {p : Nat} (hp : p < 2 * nP w) : inB (w (33 + 2 * p)) 0 9 := h.2.2.2.2.2.1 p hp
theorem WInv.th {w : Nat → Int32} (h : WInv w) {t : Nat} (ht : t < nT w) : inB (w (52 + 3 * t)) 1 60 ∧ inB (w (53 + 3 * t)) 0 99 ∧ (w (54 + 3 * t) = -1 ∨ ∃ h, w (54 + 3 * t) = J h ∧ h < 2 * nP w) := h.2.2.2.2.2.2 t ht
theorem HB.p {v : St} {w : Nat → Int32} (h : HB v w) : v 0 0 = w 0 := h.1
theorem HB.t {v : St} {w : Nat → Int32} (h : HB v w) : v 1 0 = w 1 := h.2.1
theorem HB.snow {v : St} {w : Nat → Int32} (h : HB v w) : v 2 0 = w 5 := h.2.2.1
theorem HB.step {v : St} {w : Nat → Int32} (h : HB v w) : v 3 0 = w 6 := h.2.2.2.1
theorem HB.fall {v : St} {w : Nat → Int32} (h : HB v w) : v 4 0 = w 7 := h.2.2.2.2.1
theorem HB.thieves {v : St} {w : Nat → Int32} (h : HB v w) : v 5 0 = w 8 := h.2.2.2.2.2.1
theorem HB.fee {v : St} {w : Nat → Int32} (h : HB v w) : v 6 0 = w 9 := h.2.2.2.2.2.2.1
theorem HB.week {v : St} {w : Nat → Int32} (h : HB v w) : v 7 0 = w 4 := h.2.2.2.2.2.2.2.1
theorem HB.seed {v : St} {w : Nat → Int32} (h : HB v w) : v 8 0 = w 11 := h.2.2.2.2.2.2.2.2.1
theorem HB.bears {v : St} {w : Nat → Int32} (h : HB v w) {p : Nat} (hp : p < nP w) : v 9 p = w (12 + 4 * p) := (h.2.2.2.2.2.2.2.2.2.1 p hp).1
theorem HB.age {v : St} {w : Nat → Int32} (h : HB v w) {p : Nat} (hp : p < nP w) : v 10 p = w (13 + 4 * p) := (h.2.2.2.2.2.2.2.2.2.1 p hp).2.1
theorem HB.prop {v : St} {w : Nat → Int32} (h : HB v w) {p : Nat} (hp : p < nP w) : v 11 p = w (14 + 4 * p) := (h.2.2.2.2.2.2.2.2.2.1 p hp).2.2.1
theorem HB.broken {v : St} {w : Nat → Int32} (h : HB v w) {p : Nat} (hp : p < nP w) : v 12 p = w (15 + 4 * p) := (h.2.2.2.2.2.2.2.2.2.1 p hp).2.2.2
theorem HB.purse {v : St} {w : Nat → Int32} (h : HB v w) {p : Nat} (hp : p < 2 * nP w) : v 13 p = w (32 + 2 * p) := (h.2.2.2.2.2.2.2.2.2.2.1 p hp).1
theorem HB.guests {v : St} {w : Nat → Int32} (h : HB v w) {p : Nat} (hp : p < 2 * nP w) : v 14 p = w (33 + 2 * p) := (h.2.2.2.2.2.2.2.2.2.2.1 p hp).2
theorem HB.weight {v : St} {w : Nat → Int32} (h : HB v w) {p : Nat} (hp : p < nT w) : v 15 p = w (52 + 3 * p) := (h.2.2.2.2.2.2.2.2.2.2.2 p hp).1
theorem HB.worth {v : St} {w : Nat → Int32} (h : HB v w) {p : Nat} (hp : p < nT w) : v 16 p = w (53 + 3 * p) := (h.2.2.2.2.2.2.2.2.2.2.2 p hp).2.1
theorem HB.home {v : St} {w : Nat → Int32} (h : HB v w) {p : Nat} (hp : p < nT w) : v 17 p = w (54 + 3 * p) := (h.2.2.2.2.2.2.2.2.2.2.2 p hp).2.2
theorem HB.fr {v v' : St} {w : Nat → Int32} (h : HB v w) {S : List Nat} (k : Fr S v v') (hS : ∀ f ∈ S, 18 ≤ f) : HB v' w := by
  have e : ∀ f, f < 18 → v' f = v f := fun f hf => k f (fun q => absurd (hS f q) (by omega))
  unfold HB at h ⊢
  simp (disch := omega) only [e]
  exact h
-- the class's readers
theorem Xhouses {n : Nat} {v : St} {w : Nat → Int32} (hI : WInv w) (hB : HB v w) : m_X3_houses n v = some (J (2 * nP w)) := by
  unfold m_X3_houses; rw [hB.p, hI.p, J_dbl]
theorem Xleaning {n : Nat} {v : St} {w : Nat → Int32} (hI : WInv w) (hB : HB v w) (a b : Int32) : m_X3_leaning n v a b = some (leanS (w 6) (b - a)) := by
  unfold m_X3_leaning leanS
  obtain ⟨k, e, h1, h2⟩ := hI.step
  have h3 : ¬ w 6 ≤ 0 := by rw [e, show (0 : Int32) = J 0 from rfl, J_le (by omega) (by omega)]; omega
  have h4 : ¬ w 6 = 0 := step_ne hI.step (by omega) (by omega)
  simp only [hB.step, h3, h4, ↓reduceIte, not_false_eq_true, bd_s]
/-- TILT by the loads as they stand in the class -/
theorem XtiltOf {n : Nat} {v : St} {w : Nat → Int32} (hI : WInv w) (hB : HB v w) {p : Nat} (hp : p < nP w) (h1 : v 18 (2 * p) = loadS w (2 * p)) (h2 : v 18 (2 * p + 1) = loadS w (2 * p + 1)) : m_X3_tiltOf n v (J p) = some (tiltS w p) := by
  have := hI.p5
  unfold m_X3_tiltOf tiltS
  have hb := (hI.pl hp).2.2.1
  simp (disch := omega) only [J_dbl, J_dbl1, ix_J, ↓reduceIte, J_nat, h1, h2, hB.prop hp, Xleaning hI hB, bd_s]
  rcases hb with e | e <;> simp only [e] <;> rfl
theorem XthingsIn {n : Nat} (hn : 5000 < n) {v : St} {w : Nat → Int32} (hI : WInv w) (hB : HB v w) (x : Int32) : m_X3_thingsIn n v x = some (inS w x) := by
  have := hI.t10
  unfold m_X3_thingsIn inS setN
  refine lp_fold (fun k a => (a, J k)) _ (fun a => a) 0 (nT w) (fun rc k a hk => ?_) (fun rc a => ?_) (by omega) rfl
  · simp (disch := omega) only [hB.t, hI.t, J_le, Nat.not_le.mpr hk, ↓reduceIte, ix_J, J_nat, hB.home hk, nm_s, J_succ]
    by_cases e : w (54 + 3 * k) = x
    · simp only [e, ↓reduceIte, bd_s, decide_true]
    · simp only [e, ↓reduceIte, bd_s, decide_false, Bool.false_eq_true]
  · simp (disch := omega) only [hB.t, hI.t, J_le, Nat.le_refl, ↓reduceIte]
theorem XgoneThings {n : Nat} (hn : 5000 < n) {v : St} {w : Nat → Int32} (hI : WInv w) (hB : HB v w) : m_X3_goneThings n v = some (inS w (-1)) := by
  unfold m_X3_goneThings; rw [XthingsIn hn hI hB, bd_s]
theorem XworthIn {n : Nat} (hn : 5000 < n) {v : St} {w : Nat → Int32} (hI : WInv w) (hB : HB v w) (x : Int32) : m_X3_worthIn n v x = some (woI w x) := by
  have := hI.t10
  unfold m_X3_worthIn woI
  refine lp_fold (fun k a => (a, J k)) _ (fun a => a) 0 (nT w) (fun rc k a hk => ?_) (fun rc a => ?_) (by omega) rfl
  · simp (disch := omega) only [hB.t, hI.t, J_le, Nat.not_le.mpr hk, ↓reduceIte, ix_J, J_nat, hB.home hk, hB.worth hk, nm_s, J_succ]
    by_cases e : w (54 + 3 * k) = x
    · simp only [e, ↓reduceIte, bd_s]
    · simp only [e, ↓reduceIte, bd_s, Int32.add_zero]
  · simp (disch := omega) only [hB.t, hI.t, J_le, Nat.le_refl, ↓reduceIte]
theorem shr_0 (x : Int32) {k : Nat} (h : k < 32) : ((x_shr x (J k) &&& 1 : Int32) = 0) ↔ tb x k = false := by
  rw [shr_1 x h]; cases tb x k <;> decide
theorem XweightOf {n : Nat} (hn : 5000 < n) {v : St} {w : Nat → Int32} (hI : WInv w) (hB : HB v w) (x : Int32) : m_X3_weightOf n v x = some (wgS w x) := by
  have := hI.t10
  unfold m_X3_weightOf wgS
  refine lp_fold (fun k a => (a, J k)) _ (fun a => a) 0 (nT w) (fun rc k a hk => ?_) (fun rc a => ?_) (by omega) rfl
  · simp (disch := omega) only [hB.t, hI.t, J_le, Nat.not_le.mpr hk, ↓reduceIte, ix_J, J_nat, hB.weight hk, nm_s, J_succ, shr_0]
    cases tb x k
    · simp only [↓reduceIte, bd_s, Int32.add_zero, Bool.false_eq_true]
    · simp only [↓reduceIte, bd_s, Bool.true_eq_false]
  · simp (disch := omega) only [hB.t, hI.t, J_le, Nat.le_refl, ↓reduceIte]
def brS (w : Nat → Int32) : Int32 := setN (fun p => decide (w (15 + 4 * p) = 1)) (nP w)
theorem XbrokenPlanks {n : Nat} (hn : 5000 < n) {v : St} {w : Nat → Int32} (hI : WInv w) (hB : HB v w) : m_X3_brokenPlanks n v = some (brS w) := by
  have := hI.p5
  unfold m_X3_brokenPlanks brS setN
  refine lp_fold (fun k a => (a, J k)) _ (fun a => a) 0 (nP w) (fun rc k a hk => ?_) (fun rc a => ?_) (by omega) rfl
  · simp (disch := omega) only [hB.p, hI.p, J_le, Nat.not_le.mpr hk, ↓reduceIte, ix_J, J_nat, hB.broken hk, nm_s, J_succ]
    rcases (hI.pl hk).2.2.2 with e | e <;> simp only [e] <;> rfl
  · simp (disch := omega) only [hB.p, hI.p, J_le, Nat.le_refl, ↓reduceIte]
def puS (w : Nat → Int32) : Int32 := foldN (fun h a => a + w (32 + 2 * h)) 0 (2 * nP w)
theorem XpurseSum {n : Nat} (hn : 5000 < n) {v : St} {w : Nat → Int32} (hI : WInv w) (hB : HB v w) : m_X3_purseSum n v = some (puS w) := by
  have := hI.p5
  unfold m_X3_purseSum puS
  refine lp_fold (fun k a => (a, J k)) _ (fun a => a) 0 (2 * nP w) (fun rc k a hk => ?_) (fun rc a => ?_) (by omega) rfl
  · simp (disch := omega) only [Xhouses hI hB, bd_s, J_le, Nat.not_le.mpr hk, ↓reduceIte, ix_J, J_nat, hB.purse hk, nm_s, J_succ]
  · simp (disch := omega) only [Xhouses hI hB, bd_s, J_le, Nat.le_refl, ↓reduceIte]
theorem Xweigh {n : Nat} (hn : 5000 < n) {v : St} {w : Nat → Int32} (hI : WInv w) (hB : HB v w) : Ok (m_X3_weigh n v) (fun v' => Fr [18, 19] v v' ∧ HW v' w) := by
  have h5 := hI.p5
  have h10 := hI.t10
  unfold m_X3_weigh
  refine ok_bd2 (P := fun x => Fr [18, 19] v x ∧ ∀ h, h < 2 * nP w → x 18 h = w 5 + 5 * w (33 + 2 * h)) ?_ ?_
  · refine ok_forE (fun k x => (J k, x)) (2 * nP w) (fun k x => Fr [18, 19] v x ∧ ∀ h, h < k → x 18 h = w 5 + 5 * w (33 + 2 * h)) ?_ ?_ (by omega) v rfl ⟨Fr.rfl _ _, fun h hh => absurd hh (by omega)⟩
    · rintro rc k x hk ⟨hf, hl⟩ ih
      have hB' := hB.fr hf (by simp)
      simp (disch := omega) only [Xhouses hI hB', bd_s, J_le, Nat.not_le.mpr hk, ↓reduceIte, ix_J, J_nat, hB'.guests hk, hB'.snow, nm_s, J_succ]
      refine ih _ ⟨hf.put (by simp) _ _, fun h hh => ?_⟩
      simp only [su_e, upd_a]
      by_cases e : h = k
      · subst e; rw [if_pos rfl]
      · rw [if_neg e]; exact hl h (by omega)
    · rintro rc x ⟨hf, hl⟩
      have hB' := hB.fr hf (by simp)
      simp (disch := omega) only [Xhouses hI hB', bd_s, J_le, Nat.le_refl, ↓reduceIte]
      exact ok_some ⟨hf, hl⟩
  rintro x1 ⟨hf1, hl1⟩
  refine ok_bd2 (P := fun x => Fr [18, 19] v x ∧ ∀ h, h < 2 * nP w → x 18 h = loadS w h) ?_ ?_
  · refine ok_forE (fun k x => (J k, x)) (nT w) (fun k x => Fr [18, 19] v x ∧ ∀ h, h < 2 * nP w → x 18 h = foldN (fun t a => a + (if w (54 + 3 * t) = J h then w (52 + 3 * t) else 0)) 0 k + 5 * w (33 + 2 * h) + w 5) ?_ ?_ (by omega) x1 rfl ⟨hf1, fun h hh => by rw [hl1 h hh]; simp only [foldN]; grind⟩
    · rintro rc k x hk ⟨hf, hl⟩ ih
      have hB' := hB.fr hf (by simp)
      simp (disch := omega) only [Xhouses hI hB', bd_s, J_le, hB'.t, hI.t, Nat.not_le.mpr hk, ↓reduceIte, ix_J, J_nat, hB'.home hk, hB'.weight hk, nm_s, J_succ]
      rcases (hI.th hk).2.2 with e | ⟨h0, e, hh0⟩
      · simp only [e, show ((-1 : Int32) < 0) from by decide, ↓reduceIte, bd_s]
        refine ih _ ⟨hf, fun h hh => ?_⟩
        rw [hl h hh]
        simp only [foldN, e]
        rw [if_neg (by intro q; exact J_ne_neg (k := h) (by omega) q.symm), Int32.add_zero]
      · simp (disch := omega) only [e, J_nn, ↓reduceIte, J_le, Nat.not_le.mpr hh0, ix_J, J_nat, bd_s]
        refine ih _ ⟨hf.put (by simp) _ _, fun h hh => ?_⟩
        simp only [su_e, upd_a, foldN, e]
        by_cases e2 : h = h0
        · subst e2; simp only [↓reduceIte]; rw [hl h hh]; grind
        · rw [if_neg e2, hl h hh, if_neg (by rw [J_inj (by omega) (by omega)]; omega), Int32.add_zero]
    · rintro rc x ⟨hf, hl⟩
      have hB' := hB.fr hf (by simp)
      simp (disch := omega) only [bd_s, J_le, hB'.t, hI.t, Nat.le_refl, ↓reduceIte]
      exact ok_some ⟨hf, hl⟩
  rintro x2 ⟨hf2, hl2⟩
  refine ok_forE (fun k x => (J k, x)) (nP w) (fun k x => Fr [18, 19] v x ∧ (∀ h, h < 2 * nP w → x 18 h = loadS w h) ∧ ∀ h, h < 2 * k → x 19 h = heightS w h) ?_ ?_ (by omega) x2 rfl ⟨hf2, hl2, fun h hh => absurd hh (by omega)⟩
  · rintro rc k x hk ⟨hf, hl, hh⟩ ih
    have hB' := hB.fr hf (by simp)
    have hb := (hI.pl hk).2.2.2
    simp (disch := omega) only [bd_s, J_le, hB'.p, hI.p, Nat.not_le.mpr hk, ↓reduceIte, ix_J, J_nat, J_dbl, J_dbl1, XtiltOf hI hB' hk (hl _ (by omega)) (hl _ (by omega)), hB'.broken hk, nm_s, J_succ, su_n _ 19 _ _ (show 12 ≠ 19 by decide)]
    have h0 : heightS w (2 * k) = if w (15 + 4 * k) = 0 then 5 + tiltS w k else 0 := by
      unfold heightS
      rw [show 2 * k / 2 = k from by omega, show 2 * k % 2 = 0 from by omega]
      rcases hb with e | e <;> simp only [e] <;> rfl
    have h1 : heightS w (2 * k + 1) = if w (15 + 4 * k) = 0 then 5 - tiltS w k else 0 := by
      unfold heightS
      rw [show (2 * k + 1) / 2 = k from by omega, show (2 * k + 1) % 2 = 1 from by omega]
      rcases hb with e | e <;> simp only [e] <;> rfl
    have key : ∀ a b : Int32, a = heightS w (2 * k) → b = heightS w (2 * k + 1) → Ok (rc (J (k + 1), su (su x 19 (2 * k) a) 19 (2 * k + 1) b)) (fun v' => Fr [18, 19] v v' ∧ HW v' w) := by
      intro a b ha hb'
      refine ih _ ⟨(hf.put (by simp) _ _).put (by simp) _ _, fun h hh' => ?_, fun h hh' => ?_⟩
      · simp only [su_n _ 19 _ _ (show 18 ≠ 19 by decide)]; exact hl h hh'
      · simp only [su_e, upd_a]
        by_cases e1 : h = 2 * k + 1
        · rw [if_pos e1, e1, hb']
        · rw [if_neg e1]
          by_cases e2 : h = 2 * k
          · rw [if_pos e2, e2, ha]
          · rw [if_neg e2]; exact hh h (by omega)
    rcases hb with e | e
    · simp only [e, ↓reduceIte, bd_s] at h0 h1 ⊢
      exact key _ _ h0.symm h1.symm
    · simp only [e, show ¬ ((1 : Int32) = 0) from by decide, ↓reduceIte, bd_s] at h0 h1 ⊢
      exact key _ _ h0.symm h1.symm
  · rintro rc x ⟨hf, hl, hh⟩
    have hB' := hB.fr hf (by simp)
    simp (disch := omega) only [bd_s, J_le, hB'.p, hI.p, Nat.le_refl, ↓reduceIte]
    exact ok_some ⟨hf, fun h hh' => ⟨hl h hh', hh h hh'⟩⟩
end PHILL
