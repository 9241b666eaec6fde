section PROWS
theorem evS_congr {F F' : Nat → Int32} {g g' : Nat → Nat} {a a' : Nat → Int32} (hF : ∀ o, F' o = F o) : ∀ (d i : Nat) (st : List Int32), (∀ k, i ≤ k → k < i + d → g' k = g k ∧ a' k = a k) → evS F' g' a' i d st = evS F g a i d st
  | 0, _, _, _ => rfl
  | d + 1, i, st, h => by
    unfold evS
    obtain ⟨h1, h2⟩ := h i (by omega) (by omega)
    rw [h1, h2]
    have : opS F' (g i) (a i) st = opS F (g i) (a i) st := by unfold opS; simp only [hF]
    rw [this]
    exact evS_congr hF d (i + 1) _ (fun k h1 h2 => h k (by omega) (by omega))
/-- two rows alike as far as a plank goes -/
def AG (p : Nat) (w u : Nat → Int32) : Prop := (∀ k, k < 10 → k ≠ 2 → u k = w k) ∧ (∀ k, 52 ≤ k → k < 82 → u k = w k) ∧ (∀ k, 382 ≤ k → k < 1231 → u k = w k) ∧ (∀ i, i < 4 → u (12 + 4 * p + i) = w (12 + 4 * p + i)) ∧ u (33 + 4 * p) = w (33 + 4 * p) ∧ u (35 + 4 * p) = w (35 + 4 * p)
theorem AG.eqP {p : Nat} {w u : Nat → Int32} (h : AG p w u) : nP u = nP w := by unfold nP; rw [h.1 0 (by omega) (by omega)]
theorem AG.eqT {p : Nat} {w u : Nat → Int32} (h : AG p w u) : nT u = nT w := by unfold nT; rw [h.1 1 (by omega) (by omega)]
theorem AG.bears {p : Nat} {w u : Nat → Int32} (h : AG p w u) : u (12 + 4 * p) = w (12 + 4 * p) := h.2.2.2.1 0 (by omega)
theorem AG.age {p : Nat} {w u : Nat → Int32} (h : AG p w u) : u (13 + 4 * p) = w (13 + 4 * p) := by have := h.2.2.2.1 1 (by omega); rwa [show 12 + 4 * p + 1 = 13 + 4 * p from by omega] at this
theorem AG.prop {p : Nat} {w u : Nat → Int32} (h : AG p w u) : u (14 + 4 * p) = w (14 + 4 * p) := by have := h.2.2.2.1 2 (by omega); rwa [show 12 + 4 * p + 2 = 14 + 4 * p from by omega] at this
theorem AG.broken {p : Nat} {w u : Nat → Int32} (h : AG p w u) : u (15 + 4 * p) = w (15 + 4 * p) := by have := h.2.2.2.1 3 (by omega); rwa [show 12 + 4 * p + 3 = 15 + 4 * p from by omega] at this
theorem AG.guests {p : Nat} {w u : Nat → Int32} (h : AG p w u) {q : Nat} (hq : q / 2 = p) : u (33 + 2 * q) = w (33 + 2 * q) := by
  rcases (by omega : q = 2 * p ∨ q = 2 * p + 1) with rfl | rfl
  · have := h.2.2.2.2.1; rwa [show 33 + 4 * p = 33 + 2 * (2 * p) from by omega] at this
  · have := h.2.2.2.2.2; rwa [show 35 + 4 * p = 33 + 2 * (2 * p + 1) from by omega] at this
theorem AG.eqWg {p : Nat} {w u : Nat → Int32} (h : AG p w u) (hT : nT w ≤ 10) (x : Int32) : wgI u x = wgI w x := by
  unfold wgI
  rw [h.eqT]
  apply foldN_congr
  intro k a hk
  rw [h.2.1 _ (by omega) (by omega), h.2.1 _ (by omega) (by omega)]
theorem AG.load {p : Nat} {w u : Nat → Int32} (h : AG p w u) (hT : nT w ≤ 10) {q : Nat} (hq : q / 2 = p) : loadS u q = loadS w q := by
  unfold loadS
  rw [h.eqWg hT, h.guests hq, h.1 5 (by omega) (by omega)]
theorem AG.tilt {p : Nat} {w u : Nat → Int32} (h : AG p w u) (hT : nT w ≤ 10) : tiltS u p = tiltS w p := by
  unfold tiltS
  rw [h.load hT (by omega), h.load hT (by omega), h.1 6 (by omega) (by omega), h.prop]
theorem AG.height {p : Nat} {w u : Nat → Int32} (h : AG p w u) (hT : nT w ≤ 10) {q : Nat} (hq : q / 2 = p) : heightS u q = heightS w q := by
  unfold heightS
  rw [hq, h.tilt hT, h.broken]
theorem AG.fact {p : Nat} {w u : Nat → Int32} (h : AG p w u) (hT : nT w ≤ 10) {q : Nat} (hq : q / 2 = p) (o : Nat) : factS u q o = factS w q o := by
  unfold factS
  rw [h.height hT hq, h.load hT hq, h.guests hq, hq, h.age, h.1 4 (by omega) (by omega)]
theorem AG.sum {p : Nat} {w u : Nat → Int32} (h : AG p w u) (hT : nT w ≤ 10) (hL : LWo w) {q : Nat} (hq : q / 2 = p) (k : Int32) : sumS u k q = sumS w k q := by
  have h3 : u 3 = w 3 := h.1 3 (by omega) (by omega)
  unfold sumS
  rw [h3]
  rcases hL with h0 | ⟨h1, a1, a2, a3⟩
  · rw [h0, if_neg (by decide), if_neg (by decide)]
  · rw [if_pos h1, if_pos h1]
    have en : nL u = nL w := by unfold nL; rw [h.2.2.1 382 (by omega) (by omega)]
    rw [en]
    apply foldN_congr
    intro l a hl
    obtain ⟨⟨b1, b2, b3, b4, b5, b6, b7⟩, c1, c2⟩ := a3 l hl
    have e1 : holdS u q l = holdS w q l := by
      have ef : lf u l = lf w l := by unfold lf; rw [h.2.2.1 _ (by omega) (by omega)]
      have et : lt u l = lt w l := by unfold lt; rw [h.2.2.1 _ (by omega) (by omega)]
      unfold holdS
      rw [ef, et, evS_congr (F := factS w q) (F' := factS u q) (g := lg w) (g' := lg u) (a := la w) (a' := la u) (h.fact hT hq) _ _ _ (fun i i1 i2 => ⟨by unfold lg; rw [h.2.2.1 _ (by omega) (by omega)], by unfold la; rw [h.2.2.1 _ (by omega) (by omega)]⟩)]
    rw [e1, h.2.2.1 _ (by omega) (by omega), h.2.2.1 _ (by omega) (by omega)]
theorem AG.pays {p : Nat} {w u : Nat → Int32} (h : AG p w u) (hT : nT w ≤ 10) (hL : LWo w) {q : Nat} (hq : q / 2 = p) : paysS u q = paysS w q := by
  unfold paysS
  rw [h.height hT hq, h.sum hT hL hq, h.1 9 (by omega) (by omega)]
theorem AG.ages {p : Nat} {w u : Nat → Int32} (h : AG p w u) (hT : nT w ≤ 10) (hL : LWo w) : agesS u p = agesS w p := by
  unfold agesS
  rw [h.sum hT hL (by omega)]
theorem AG.rfl (p : Nat) (w : Nat → Int32) : AG p w w := ⟨fun _ _ _ => by trivial, fun _ _ _ => by trivial, fun _ _ _ => by trivial, fun _ _ => by trivial, by trivial, by trivial⟩
theorem AG.symm {p : Nat} {w u : Nat → Int32} (h : AG p w u) : AG p u w := ⟨fun k a b => (h.1 k a b).symm, fun k a b => (h.2.1 k a b).symm, fun k a b => (h.2.2.1 k a b).symm, fun k a => (h.2.2.2.1 k a).symm, h.2.2.2.2.1.symm, h.2.2.2.2.2.symm⟩
theorem AG.trans {p : Nat} {w u x : Nat → Int32} (h : AG p w u) (k : AG p u x) : AG p w x := ⟨fun i a b => (k.1 i a b).trans (h.1 i a b), fun i a b => (k.2.1 i a b).trans (h.2.1 i a b), fun i a b => (k.2.2.1 i a b).trans (h.2.2.1 i a b), fun i a => (k.2.2.2.1 i a).trans (h.2.2.2.1 i a), k.2.2.2.2.1.trans h.2.2.2.2.1, k.2.2.2.2.2.trans h.2.2.2.2.2⟩
/-- what a sum can be -/
theorem sum_b {w : Nat → Int32} (hL : LWo w) (k : Int32) (q : Nat) : ∃ s, s ≤ 720 ∧ sumS w k q = J s := by
  unfold sumS
  rcases hL with h0 | ⟨h1, a1, a2, a3⟩
  · rw [h0, if_neg (by decide)]; exact ⟨0, by omega, rfl⟩
  · rw [if_pos h1]
    have key : ∀ N, N ≤ nL w → ∃ s, s ≤ 60 * N ∧ foldN (fun l a => if w (383 + 4 * l) = k then (if holdS w q l then a + w (384 + 4 * l) else a) else a) 0 N = J s := by
      intro N
      induction N with
      | zero => exact fun _ => ⟨0, by omega, rfl⟩
      | succ N ih =>
        intro hN
        obtain ⟨s, hs, e⟩ := ih (by omega)
        obtain ⟨x, ex, -, hx⟩ := (a3 N (by omega)).1.2.2.2.2.1
        rw [foldN_succ, e]
        split
        · split
          · exact ⟨s + x, by omega, by rw [ex, J_add]⟩
          · exact ⟨s, by omega, by trivial⟩
        · exact ⟨s, by omega, by trivial⟩
    obtain ⟨s, hs, e⟩ := key (nL w) (Nat.le_refl _)
    exact ⟨s, by omega, e⟩
theorem ages_b {w : Nat → Int32} (hL : LWo w) (p : Nat) : ∃ s, s ≤ 721 ∧ agesS w p = J s := by
  obtain ⟨s, hs, e⟩ := sum_b hL 2 (2 * p)
  exact ⟨1 + s, by omega, by unfold agesS; rw [e, show (1 : Int32) = J 1 from rfl, J_add]⟩
-- what a week makes of purses, ages
def newP (w : Nat → Int32) (h : Nat) : Int32 := if w (15 + 4 * (h / 2)) = 1 then w (32 + 2 * h) else x_max 0 (w (32 + 2 * h) - paysS w h)
def newA (w : Nat → Int32) (p : Nat) : Int32 := if w (15 + 4 * p) = 1 then w (13 + 4 * p) else x_min 99 (w (13 + 4 * p) + agesS w p)
def newB (w : Nat → Int32) (p : Nat) : Int32 := if w (15 + 4 * p) = 1 then 1 else if loadS w (2 * p) + loadS w (2 * p + 1) ≤ w (12 + 4 * p) - newA w p then 0 else 1
def payTo (w : Nat → Int32) (K : Nat) : Nat → Int32 := foldN (fun h u => upd u (32 + 2 * h) (newP w h)) w K
def ageTo (w : Nat → Int32) (K : Nat) : Nat → Int32 := foldN (fun p u => upd (upd u (13 + 4 * p) (newA w p)) (15 + 4 * p) (newB w p)) w K
theorem payTo_ne (w : Nat → Int32) {k : Nat} : ∀ (K : Nat), (∀ h, h < K → k ≠ 32 + 2 * h) → payTo w K k = w k
  | 0, _ => rfl
  | K + 1, hk => by
    show upd (payTo w K) (32 + 2 * K) (newP w K) k = _
    rw [upd_n _ _ _ (hk K (by omega)), payTo_ne w K (fun h hh => hk h (by omega))]
theorem payTo_at (w : Nat → Int32) {h : Nat} : ∀ (K : Nat), payTo w K (32 + 2 * h) = if h < K then newP w h else w (32 + 2 * h)
  | 0 => by rw [if_neg (by omega)]; rfl
  | K + 1 => by
    show upd (payTo w K) (32 + 2 * K) (newP w K) (32 + 2 * h) = _
    by_cases e : h = K
    · subst e; rw [upd_e, if_pos (by omega)]
    · rw [upd_n _ _ _ (by omega), payTo_at w K]
      by_cases q : h < K
      · rw [if_pos q, if_pos (by omega)]
      · rw [if_neg q, if_neg (by omega)]
theorem ageTo_ne (w : Nat → Int32) {k : Nat} : ∀ (K : Nat), (∀ p, p < K → k ≠ 13 + 4 * p ∧ k ≠ 15 + 4 * p) → ageTo w K k = w k
  | 0, _ => rfl
  | K + 1, hk => by
    show upd (upd (ageTo w K) (13 + 4 * K) (newA w K)) (15 + 4 * K) (newB w K) k = _
    obtain ⟨h1, h2⟩ := hk K (by omega)
    rw [upd_n _ _ _ h2, upd_n _ _ _ h1, ageTo_ne w K (fun h hh => hk h (by omega))]
theorem ageTo_a (w : Nat → Int32) {p : Nat} : ∀ (K : Nat), ageTo w K (13 + 4 * p) = if p < K then newA w p else w (13 + 4 * p)
  | 0 => by rw [if_neg (by omega)]; rfl
  | K + 1 => by
    show upd (upd (ageTo w K) (13 + 4 * K) (newA w K)) (15 + 4 * K) (newB w K) (13 + 4 * p) = _
    rw [upd_n _ _ _ (by omega)]
    by_cases e : p = K
    · subst e; rw [upd_e, if_pos (by omega)]
    · rw [upd_n _ _ _ (by omega), ageTo_a w K]
      by_cases q : p < K
      · rw [if_pos q, if_pos (by omega)]
      · rw [if_neg q, if_neg (by omega)]
theorem ageTo_b (w : Nat → Int32) {p : Nat} : ∀ (K : Nat), ageTo w K (15 + 4 * p) = if p < K then newB w p else w (15 + 4 * p)
  | 0 => by rw [if_neg (by omega)]; rfl
  | K + 1 => by
    show upd (upd (ageTo w K) (13 + 4 * K) (newA w K)) (15 + 4 * K) (newB w K) (15 + 4 * p) = _
    by_cases e : p = K
    · subst e; rw [upd_e, if_pos (by omega)]
    · rw [upd_n _ _ _ (by omega), upd_n _ _ _ (by omega), ageTo_b w K]
      by_cases q : p < K
      · rw [if_pos q, if_pos (by omega)]
      · rw [if_neg q, if_neg (by omega)]
theorem upd_same (f : Nat → Int32) {k : Nat} {x : Int32} (h : f k = x) : upd f k x = f := by
  funext j; rw [upd_a]; by_cases e : j = k
  · rw [if_pos e, e, h]
  · rw [if_neg e]
theorem payTo_AG (w : Nat → Int32) (p K : Nat) (hp : p < 5) (hK : K ≤ 10) : AG p w (payTo w K) := by
  refine ⟨fun k a b => ?_, fun k a b => ?_, fun k a b => ?_, fun i a => ?_, ?_, ?_⟩ <;> exact payTo_ne w K (fun h hh => by omega)
theorem ageTo_AG (w : Nat → Int32) (p K : Nat) (hp : p < 5) (hK : K ≤ p) : AG p w (ageTo w K) := by
  refine ⟨fun k a b => ?_, fun k a b => ?_, fun k a b => ?_, fun i a => ?_, ?_, ?_⟩ <;> exact ageTo_ne w K (fun h hh => by omega)
theorem newA_b {w : Nat → Int32} (hI : WInv w) (hL : LWo w) {p : Nat} (hp : p < nP w) : inB (newA w p) 0 99 := by
  unfold newA
  split
  · exact (hI.pl hp).2.1
  · obtain ⟨a, ea, -, ha⟩ := (hI.pl hp).2.1
    obtain ⟨s, hs, es⟩ := ages_b hL p
    rw [ea, es, J_add, show (99 : Int32) = J 99 from rfl, J_min (by omega) (by omega)]
    exact ⟨_, rfl, by omega, by omega⟩
theorem newB_b (w : Nat → Int32) (p : Nat) : isb (newB w p) := by
  unfold newB
  split
  · exact .inr rfl
  · split
    · exact .inl rfl
    · exact .inr rfl
theorem payTo_I {w : Nat → Int32} (hI : WInv w) {K : Nat} (hK : K ≤ 10) : WInv (payTo w K) := by
  have h5 := hI.p5
  have h10 := hI.t10
  have e : ∀ k, (∀ h, h < K → k ≠ 32 + 2 * h) → payTo w K k = w k := fun k => payTo_ne w K
  have eP : nP (payTo w K) = nP w := by unfold nP; rw [e 0 (fun h hh => by omega)]
  have eT : nT (payTo w K) = nT w := by unfold nT; rw [e 1 (fun h hh => by omega)]
  unfold WInv
  rw [eP, eT, e 0 (fun h hh => by omega), e 1 (fun h hh => by omega), e 6 (fun h hh => by omega), e 5 (fun h hh => by omega)]
  refine ⟨hI.1, hI.2.1, hI.2.2.1, hI.2.2.2.1, fun p hp => ?_, fun q hq => ?_, fun t ht => ?_⟩
  · rw [e _ (fun h hh => by omega), e _ (fun h hh => by omega), e _ (fun h hh => by omega), e _ (fun h hh => by omega)]; exact hI.pl hp
  · rw [e _ (fun h hh => by omega)]; exact hI.ho hq
  · rw [e _ (fun h hh => by omega), e _ (fun h hh => by omega), e _ (fun h hh => by omega)]; exact hI.th ht
theorem ageTo_I {w : Nat → Int32} (hI : WInv w) (hL : LWo w) {K : Nat} (hK : K ≤ nP w) : WInv (ageTo w K) := by
  have h5 := hI.p5
  have h10 := hI.t10
  have e : ∀ k, (∀ p, p < K → k ≠ 13 + 4 * p ∧ k ≠ 15 + 4 * p) → ageTo w K k = w k := fun k => ageTo_ne w K
  have eP : nP (ageTo w K) = nP w := by unfold nP; rw [e 0 (fun h hh => by omega)]
  have eT : nT (ageTo w K) = nT w := by unfold nT; rw [e 1 (fun h hh => by omega)]
  unfold WInv
  rw [eP, eT, e 0 (fun h hh => by omega), e 1 (fun h hh => by omega), e 6 (fun h hh => by omega), e 5 (fun h hh => by omega)]
  refine ⟨hI.1, hI.2.1, hI.2.2.1, hI.2.2.2.1, fun p hp => ?_, fun q hq => ?_, fun t ht => ?_⟩
  · rw [e (12 + 4 * p) (fun h hh => by omega), e (14 + 4 * p) (fun h hh => by omega), ageTo_a, ageTo_b]
    obtain ⟨a1, a2, a3, a4⟩ := hI.pl hp
    refine ⟨a1, ?_, a3, ?_⟩
    · split
      · exact newA_b hI hL hp
      · exact a2
    · split
      · exact newB_b w p
      · exact a4
  · rw [e _ (fun h hh => by omega)]; exact hI.ho hq
  · rw [e _ (fun h hh => by omega), e _ (fun h hh => by omega), e _ (fun h hh => by omega)]; exact hI.th ht
theorem payTo_L {w : Nat → Int32} (hL : LWo w) {K : Nat} (hK : K ≤ 10) : LWo (payTo w K) := hL.eq (fun k a b => payTo_ne w K (fun h hh => by omega)) (payTo_ne w K (fun h hh => by omega))
theorem ageTo_L {w : Nat → Int32} (hL : LWo w) {K : Nat} (hK : K ≤ 5) : LWo (ageTo w K) := hL.eq (fun k a b => ageTo_ne w K (fun h hh => by omega)) (ageTo_ne w K (fun h hh => by omega))
end PROWS
