section PBALL
def allN (P : Nat → Bool) : Nat → Bool
  | 0 => true
  | N + 1 => allN P N && P N
theorem allN_iff (P : Nat → Bool) : ∀ N, allN P N = true ↔ ∀ k, k < N → P k = true
  | 0 => by simp [allN]
  | N + 1 => by
    simp only [allN, Bool.and_eq_true, allN_iff P N]
    constructor
    · rintro ⟨h1, h2⟩ k hk
      by_cases e : k = N
      · rw [e]; exact h2
      · exact h1 k (by omega)
    · intro h; exact ⟨fun k hk => h k (by omega), h N (by omega)⟩
theorem allN_congr {P Q : Nat → Bool} {N : Nat} (h : ∀ k, k < N → P k = Q k) : allN P N = allN Q N := by
  rw [Bool.eq_iff_iff, allN_iff, allN_iff]
  exact ⟨fun g k hk => by rw [← h k hk]; exact g k hk, fun g k hk => by rw [h k hk]; exact g k hk⟩
/-- a loop that ends early where something fails -/
theorem lp_all {σ ρ : Type} {body : (σ → Option ρ) → σ → Option ρ} (f : Nat → σ) (P : Nat → Bool) (N : Nat) (r0 r1 : ρ)
    (step : ∀ (rc : σ → Option ρ) (k : Nat), k < N → body rc (f k) = if P k then rc (f (k + 1)) else some r0)
    (last : ∀ rc : σ → Option ρ, body rc (f N) = some r1) {n : Nat} (hn : N < n) {x : σ} (h0 : x = f 0) : lp body n x = some (if allN P N then r1 else r0) := by
  obtain ⟨a, e, rfl⟩ := ok_for (body := body) (Q := fun a => a = if allN P N then r1 else r0) N (fun k x => x = f k ∧ allN P k = true) (fun rc k x hk hx ih => by
    rw [hx.1, step rc k hk]
    by_cases h : P k = true
    · rw [if_pos h]; exact ih _ ⟨rfl, by simp [allN, hx.2, h]⟩
    · rw [if_neg h]
      refine ok_some ?_
      rw [if_neg]
      intro q
      exact h ((allN_iff P N).mp q k hk)) (fun rc x hx => by rw [hx.1, last]; exact ok_some (by rw [if_pos hx.2])) hn ⟨h0, rfl⟩
  exact e
/-- a loop with a flag that ends it -/
theorem lp_flag {σ ρ : Type} {body : (σ → Option ρ) → σ → Option ρ} (f : Nat → Int32 → σ) (P : Nat → Bool) (N : Nat) (res : Int32 → ρ)
    (step : ∀ (rc : σ → Option ρ) (k : Nat), k < N → body rc (f k 1) = rc (f (k + 1) (b2 (P k))))
    (zero : ∀ (rc : σ → Option ρ) (k : Nat), k < N → body rc (f k 0) = some (res 0))
    (last : ∀ (rc : σ → Option ρ) (b : Bool), body rc (f N (b2 b)) = some (res (b2 b))) {n : Nat} (hn : N < n) {x : σ} (c : Bool) (h0 : x = f 0 (b2 c)) : lp body n x = some (res (b2 (c && allN P N))) := by
  obtain ⟨a, e, rfl⟩ := ok_for (body := body) (Q := fun a => a = res (b2 (c && allN P N))) N (fun k x => x = f k (b2 (c && allN P k))) (fun rc k x hk hx ih => by
    rw [hx]
    by_cases h : (c && allN P k) = true
    · rw [h]
      show Ok (body rc (f k 1)) _
      rw [step rc k hk]
      refine ih _ ?_
      have : (c && allN P (k + 1)) = P k := by
        simp only [Bool.and_eq_true] at h
        simp [allN, h.1, h.2]
      rw [this]
    · have h' : (c && allN P k) = false := by simpa using h
      rw [h']
      show Ok (body rc (f k 0)) _
      rw [zero rc k hk]
      refine ok_some ?_
      have : (c && allN P N) = false := by
        rw [Bool.eq_false_iff]
        intro q
        rw [Bool.and_eq_true] at q
        apply h
        rw [Bool.and_eq_true]
        exact ⟨q.1, (allN_iff P k).mpr (fun i hi => (allN_iff P N).mp q.2 i (by omega))⟩
      rw [this]; rfl) (fun rc x hx => by rw [hx, last]; exact ok_some rfl) hn (x := x) (by rw [h0]; simp [allN])
  exact e
def twS (w : Nat → Int32) (p a b : Nat) : Int32 := leanS (w 6) (loadS w (2 * p + 1) + J b * w 6 - (loadS w (2 * p) + J a * w 6))
def rsS (w : Nat → Int32) (p a b k : Nat) : Bool := decide (twS w p k b - J k ≤ twS w p a b - J a ∧ -(twS w p a k) - J k ≤ -(twS w p a b) - J b)
theorem twX {n : Nat} {v : St} {w : Nat → Int32} (hR : HR v w) {p : Nat} (hp : p < nP w) (a b : Nat) : m_X0_tiltWith n v (J p) (J a) (J b) = some (twS w p a b) := by
  have h5 := hR.1.p5
  unfold m_X0_tiltWith twS
  simp (disch := omega) only [J_dbl, J_dbl1, ix_J, ↓reduceIte, J_nat, (hR.2.2 (2 * p) (by omega)).1, (hR.2.2 (2 * p + 1) (by omega)).1, Xleaning hR.1 hR.2.1, bd_s, hR.2.1.step]
theorem rsX {n : Nat} (hn : 5000 < n) {v : St} {w : Nat → Int32} (hR : HR v w) {p : Nat} (hp : p < nP w) (a b : Nat) : m_X0_isResting n v (J p) (J a) (J b) = some (b2 (allN (rsS w p a b) 3)) := by
  unfold m_X0_isResting
  simp only [twX hR hp, bd_s, nm_s]
  refine lp_all (fun k => J k) (rsS w p a b) 3 0 1 (fun rc k hk => ?_) (fun rc => ?_) (by omega) rfl
  · have e : ¬ (3 : Int32) ≤ J k := by rw [show (3 : Int32) = J 3 from rfl, J_le (by omega) (by omega)]; omega
    simp only [e, ↓reduceIte, twX hR hp, bd_s, J_succ]
    unfold rsS
    by_cases q1 : twS w p k b - J k ≤ twS w p a b - J a <;> by_cases q2 : -(twS w p a k) - J k ≤ -(twS w p a b) - J b <;> simp [q1, q2, bd_s]
  · rfl
theorem hbR {n : Nat} (hn : 5000 < n) {u : St} (hI : WInv (u 1)) {p : Nat} (hp : p < nP (u 1)) (a b : Nat) (c : Int32) : m_X12_hasBy n u (J p) (J a) (J b) c = some (if c = 0 then 5 - twS (u 1) p a b - J b else 5 + twS (u 1) p a b - J a) := by
  have h5 := hI.p5
  unfold m_X12_hasBy twS
  simp (disch := omega) only [J_dbl, J_dbl1, loadOf_s hn u hI, bd_s, tiltBy_s n u hI]
  have e : loadS (u 1) (2 * p + 1) + J b * u 1 6 - loadS (u 1) (2 * p) - J a * u 1 6 = loadS (u 1) (2 * p + 1) + J b * u 1 6 - (loadS (u 1) (2 * p) + J a * u 1 6) := by grind
  rw [e]
  split <;> rfl
theorem ws1 {i j a k : Nat} (hi : i < 11) (hj : j < 11) (ha : a < 3) (hk : k < 3) : (5 + (J i - 5) - J a < 5 + (J j - 5) - J k) ↔ ¬ (J j - 5 - J k ≤ J i - 5 - J a) := by
  have : ∀ i : Nat, i < 11 → ∀ j : Nat, j < 11 → ∀ a : Nat, a < 3 → ∀ k : Nat, k < 3 → ((5 + (J i - 5) - J a < 5 + (J j - 5) - J k) ↔ ¬ (J j - 5 - J k ≤ J i - 5 - J a)) := by decide +kernel
  exact this i hi j hj a ha k hk
theorem ws2 {i j a k : Nat} (hi : i < 11) (hj : j < 11) (ha : a < 3) (hk : k < 3) : (5 - (J i - 5) - J a < 5 - (J j - 5) - J k) ↔ ¬ (-(J j - 5) - J k ≤ -(J i - 5) - J a) := by
  have : ∀ i : Nat, i < 11 → ∀ j : Nat, j < 11 → ∀ a : Nat, a < 3 → ∀ k : Nat, k < 3 → ((5 - (J i - 5) - J a < 5 - (J j - 5) - J k) ↔ ¬ (-(J j - 5) - J k ≤ -(J i - 5) - J a)) := by decide +kernel
  exact this i hi j hj a ha k hk
theorem isb_b2 (b : Bool) : isb (b2 b) := by cases b <;> decide
theorem rsR {n : Nat} (hn : 5000 < n) {u : St} (hI : WInv (u 1)) {p : Nat} (hp : p < nP (u 1)) {a b : Nat} (ha : a < 3) (hb : b < 3) : m_X12_rests n u (J p) (J a) (J b) = some (b2 (allN (rsS (u 1) p a b) 3)) := by
  unfold m_X12_rests
  refine (lp_seq (r := b2 (allN (rsS (u 1) p a b) 3)) (fun k => (b2 (allN (rsS (u 1) p a b) k), J k)) 3 (fun rc k hk => ?_) (fun rc => ?_) (by omega) rfl)
  · have e : ¬ (3 : Int32) ≤ J k := by rw [show (3 : Int32) = J 3 from rfl, J_le (by omega) (by omega)]; omega
    have e1 : ¬ ((1 : Int32) = 0) := by decide
    simp only [e, e1, ↓reduceIte, hbR hn hI hp, bd_s, jn_s, J_succ, allN]
    obtain ⟨i1, h1, t1⟩ := lean_b (u 1 6) (loadS (u 1) (2 * p + 1) + J b * u 1 6 - (loadS (u 1) (2 * p) + J a * u 1 6))
    obtain ⟨i2, h2, t2⟩ := lean_b (u 1 6) (loadS (u 1) (2 * p + 1) + J b * u 1 6 - (loadS (u 1) (2 * p) + J k * u 1 6))
    obtain ⟨i3, h3, t3⟩ := lean_b (u 1 6) (loadS (u 1) (2 * p + 1) + J k * u 1 6 - (loadS (u 1) (2 * p) + J a * u 1 6))
    have s1 : twS (u 1) p a b = J i1 - 5 := t1
    have s2 : twS (u 1) p k b = J i2 - 5 := t2
    have s3 : twS (u 1) p a k = J i3 - 5 := t3
    have g1 := ws1 h1 h2 ha hk
    have g2 := ws2 h1 h3 hb hk
    rw [← s1, ← s2] at g1
    rw [← s1, ← s3] at g2
    simp only [g1, g2]
    have er : rsS (u 1) p a b k = decide (twS (u 1) p k b - J k ≤ twS (u 1) p a b - J a ∧ -(twS (u 1) p a k) - J k ≤ -(twS (u 1) p a b) - J b) := rfl
    rw [er]
    cases allN (rsS (u 1) p a b) k
    · simp only [b2, Bool.false_eq_true, ↓reduceIte, bd_s, Bool.false_and]
    · by_cases q1 : twS (u 1) p k b - J k ≤ twS (u 1) p a b - J a <;> by_cases q2 : -(twS (u 1) p a k) - J k ≤ -(twS (u 1) p a b) - J b <;> simp [q1, q2, bd_s, b2]
  · have e : (3 : Int32) ≤ J 3 := by decide
    simp only [e, ↓reduceIte, isb_b2]
def balS (w : Nat → Int32) (p : Nat) : Int32 := foldN (fun a s => foldN (fun b s => if allN (rsS w p a b) 3 then s ||| x_shl 1 (J (3 * a + b)) else s) s 3) 0 3
theorem J3 (a b : Nat) : 3 * J a + J b = J (3 * a + b) := by rw [show (3 : Int32) = J 3 from rfl, J_mul, J_add]
theorem balX {n : Nat} (hn : 5000 < n) {v : St} {w : Nat → Int32} (hR : HR v w) {p : Nat} (hp : p < nP w) : m_X0_restingChoices n v (J p) = some (balS w p) := by
  unfold m_X0_restingChoices balS
  refine lp_fold (fun k a => (a, J k)) _ (fun a => a) 0 3 (fun rc k a hk => ?_) (fun rc a => ?_) (by omega) rfl
  · have e : ¬ (3 : Int32) ≤ J k := by rw [show (3 : Int32) = J 3 from rfl, J_le (by omega) (by omega)]; omega
    simp only [e, ↓reduceIte, J_succ]
    refine (congrArg (fun x => bd x _) (lp_fold (fun i a => (a, J i)) (fun b s => if allN (rsS w p k b) 3 then s ||| x_shl 1 (J (3 * k + b)) else s) (fun a => a) a 3 (fun rc i a hi => ?_) (fun rc a => ?_) (by omega) rfl)).trans (bd_s _ _)
    · have e : ¬ (3 : Int32) ≤ J i := by rw [show (3 : Int32) = J 3 from rfl, J_le (by omega) (by omega)]; omega
      simp only [e, ↓reduceIte, rsX hn hR hp, bd_s, nm_s, J3, J_succ i]
      cases allN (rsS w p k i) 3 <;> rfl
    · rfl
  · rfl
theorem balR {n : Nat} (hn : 5000 < n) {u : St} (hI : WInv (u 1)) {p : Nat} (hp : p < nP (u 1)) {α : Type} (r : α) : lp (fun (rc4 : Int32 × Int32 → Option (Int32 × α)) (x4l : Int32 × Int32) =>
(if 3 ≤ x4l.2 then
some (x4l.1, r)
else
bd (lp (fun (rc6 : Int32 × Int32 → Option (Int32)) (x6l : Int32 × Int32) =>
(if 3 ≤ x6l.2 then
some x6l.1
else
bd (m_X12_rests n u (J p) x4l.2 x6l.2) (fun t7 =>
bd ((if t7 = 0 then
some 0
else
some (x_shl 1 ((3 * x4l.2) + x6l.2)))) (fun (t8 : Int32) =>
nm (x6l.1 ||| t8) (fun x2_9 =>
rc6 (x2_9, (x6l.2 + 1))))))) n (x4l.1, 0)) (fun (t5 : Int32) =>
rc4 (t5, (x4l.2 + 1))))) n (0, 0) = some (balS (u 1) p, r) := by
  unfold balS
  refine lp_fold (fun k a => (a, J k)) _ (fun a => (a, r)) 0 3 (fun rc k a hk => ?_) (fun rc a => ?_) (by omega) rfl
  · have e : ¬ (3 : Int32) ≤ J k := by rw [show (3 : Int32) = J 3 from rfl, J_le (by omega) (by omega)]; omega
    simp only [e, ↓reduceIte, J_succ]
    refine (congrArg (fun x => bd x _) (lp_fold (fun i a => (a, J i)) (fun b s => if allN (rsS (u 1) p k b) 3 then s ||| x_shl 1 (J (3 * k + b)) else s) (fun a => a) a 3 (fun rc i a hi => ?_) (fun rc a => ?_) (by omega) rfl)).trans (bd_s _ _)
    · have e : ¬ (3 : Int32) ≤ J i := by rw [show (3 : Int32) = J 3 from rfl, J_le (by omega) (by omega)]; omega
      simp only [e, ↓reduceIte, rsR hn hI hp hk hi, bd_s, nm_s, J3, J_succ i]
      cases allN (rsS (u 1) p k i) 3
      · simp only [b2, Bool.false_eq_true, ↓reduceIte, bd_s, Int32.or_zero]
      · simp only [b2, ↓reduceIte, bd_s, show ¬ ((1 : Int32) = 0) from by decide]
    · rfl
  · rfl
end PBALL
