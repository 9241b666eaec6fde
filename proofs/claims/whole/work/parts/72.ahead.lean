section PAHEAD
def payP (u : Nat → Int32) (p : Nat) : Nat → Int32 := upd (upd u (32 + 4 * p) (newP u (2 * p))) (34 + 4 * p) (newP u (2 * p + 1))
def ageP (u : Nat → Int32) (p : Nat) : Nat → Int32 := upd (upd u (13 + 4 * p) (newA u p)) (15 + 4 * p) (newB u p)
def SM (p : Nat) (w u : Nat → Int32) : Prop := AG p w u ∧ u (32 + 4 * p) = w (32 + 4 * p) ∧ u (34 + 4 * p) = w (34 + 4 * p)
theorem SM.rfl (p : Nat) (w : Nat → Int32) : SM p w w := ⟨AG.rfl p w, by trivial, by trivial⟩
theorem SM.symm {p : Nat} {w u : Nat → Int32} (h : SM p w u) : SM p u w := ⟨h.1.symm, h.2.1.symm, h.2.2.symm⟩
theorem SM.trans {p : Nat} {w u x : Nat → Int32} (h : SM p w u) (k : SM p u x) : SM p w x := ⟨h.1.trans k.1, k.2.1.trans h.2.1, k.2.2.trans h.2.2⟩
theorem SM.purse {p : Nat} {w u : Nat → Int32} (h : SM p w u) {q : Nat} (hq : q / 2 = p) : u (32 + 2 * q) = w (32 + 2 * q) := by
  rcases (by omega : q = 2 * p ∨ q = 2 * p + 1) with e | e
  · have := h.2.1; rwa [show 32 + 4 * p = 32 + 2 * q from by omega] at this
  · have := h.2.2; rwa [show 34 + 4 * p = 32 + 2 * q from by omega] at this
theorem AG.eqNA {p : Nat} {w u : Nat → Int32} (h : AG p w u) (hT : nT w ≤ 10) (hL : LWo w) : newA u p = newA w p := by
  unfold newA
  rw [h.broken, h.age, h.ages hT hL]
theorem AG.eqNB {p : Nat} {w u : Nat → Int32} (h : AG p w u) (hT : nT w ≤ 10) (hL : LWo w) : newB u p = newB w p := by
  unfold newB
  rw [h.broken, h.load hT (by omega), h.load hT (by omega), h.bears, h.eqNA hT hL]
theorem SM.eqNP {p : Nat} {w u : Nat → Int32} (h : SM p w u) (hT : nT w ≤ 10) (hL : LWo w) {q : Nat} (hq : q / 2 = p) : newP u q = newP w q := by
  unfold newP
  rw [hq, h.1.broken, h.purse hq, h.1.pays hT hL hq]
/-- a plank's cells are made anew -/
def NW (p : Nat) (u x : Nat → Int32) : Prop := (∀ k, k < 10 → k ≠ 2 → x k = u k) ∧ (∀ k, 52 ≤ k → k < 82 → x k = u k) ∧ (∀ k, 382 ≤ k → k < 1231 → x k = u k) ∧ x (12 + 4 * p) = u (12 + 4 * p) ∧ x (14 + 4 * p) = u (14 + 4 * p) ∧ x (33 + 4 * p) = u (33 + 4 * p) ∧ x (35 + 4 * p) = u (35 + 4 * p) ∧ x (13 + 4 * p) = newA u p ∧ x (15 + 4 * p) = newB u p ∧ x (32 + 4 * p) = newP u (2 * p) ∧ x (34 + 4 * p) = newP u (2 * p + 1)
theorem SM.ofs {p : Nat} {w u : Nat → Int32} (h1 : ∀ k, k < 10 → k ≠ 2 → u k = w k) (h2 : ∀ k, 52 ≤ k → k < 82 → u k = w k) (h3 : ∀ k, 382 ≤ k → k < 1231 → u k = w k) (a0 : u (12 + 4 * p) = w (12 + 4 * p)) (a1 : u (13 + 4 * p) = w (13 + 4 * p)) (a2 : u (14 + 4 * p) = w (14 + 4 * p)) (a3 : u (15 + 4 * p) = w (15 + 4 * p)) (b0 : u (32 + 4 * p) = w (32 + 4 * p)) (b1 : u (33 + 4 * p) = w (33 + 4 * p)) (b2 : u (34 + 4 * p) = w (34 + 4 * p)) (b3 : u (35 + 4 * p) = w (35 + 4 * p)) : SM p w u := by
  refine ⟨⟨h1, h2, h3, fun i hi => ?_, b1, b3⟩, b0, b2⟩
  rcases (by omega : i = 0 ∨ i = 1 ∨ i = 2 ∨ i = 3) with rfl | rfl | rfl | rfl
  · exact a0
  · rw [show 12 + 4 * p + 1 = 13 + 4 * p from by omega]; exact a1
  · rw [show 12 + 4 * p + 2 = 14 + 4 * p from by omega]; exact a2
  · rw [show 12 + 4 * p + 3 = 15 + 4 * p from by omega]; exact a3
theorem NW.sm {p : Nat} {w u x y : Nat → Int32} (hT : nT w ≤ 10) (hL : LWo w) (h : SM p w u) (hx : NW p w x) (hy : NW p u y) : SM p x y := by
  obtain ⟨x1, x2, x3, xa, xb, xc, xd, xe, xf, xg, xh⟩ := hx
  obtain ⟨y1, y2, y3, ya, yb, yc, yd, ye, yf, yg, yh⟩ := hy
  have hA := h.1
  refine SM.ofs (fun k a b => ?_) (fun k a b => ?_) (fun k a b => ?_) ?_ ?_ ?_ ?_ ?_ ?_ ?_ ?_
  · rw [y1 k a b, x1 k a b]; exact hA.1 k a b
  · rw [y2 k a b, x2 k a b]; exact hA.2.1 k a b
  · rw [y3 k a b, x3 k a b]; exact hA.2.2.1 k a b
  · rw [ya, xa]; exact hA.bears
  · rw [ye, xe]; exact hA.eqNA hT hL
  · rw [yb, xb]; exact hA.prop
  · rw [yf, xf]; exact hA.eqNB hT hL
  · rw [yg, xg]; exact h.eqNP hT hL (by omega)
  · rw [yc, xc]; exact hA.2.2.2.2.1
  · rw [yh, xh]; exact h.eqNP hT hL (by omega)
  · rw [yd, xd]; exact hA.2.2.2.2.2
theorem SM.week {p : Nat} {w u : Nat → Int32} (h : SM p w u) : SM p (weekW w) (weekW u) := by
  have e : ∀ (z : Nat → Int32) k, k ≠ 4 → weekW z k = z k := fun z k hk => by unfold weekW; rw [upd_n _ _ _ hk]
  refine SM.ofs (fun k a b => ?_) (fun k a b => ?_) (fun k a b => ?_) ?_ ?_ ?_ ?_ ?_ ?_ ?_ ?_
  · by_cases q : k = 4
    · subst q; unfold weekW; rw [upd_e, upd_e, h.1.1 4 (by omega) (by omega)]
    · rw [e _ _ q, e _ _ q]; exact h.1.1 k a b
  · rw [e _ _ (by omega), e _ _ (by omega)]; exact h.1.2.1 k a b
  · rw [e _ _ (by omega), e _ _ (by omega)]; exact h.1.2.2.1 k a b
  · rw [e _ _ (by omega), e _ _ (by omega)]; exact h.1.bears
  · rw [e _ _ (by omega), e _ _ (by omega)]; exact h.1.age
  · rw [e _ _ (by omega), e _ _ (by omega)]; exact h.1.prop
  · rw [e _ _ (by omega), e _ _ (by omega)]; exact h.1.broken
  · rw [e _ _ (by omega), e _ _ (by omega)]; exact h.2.1
  · rw [e _ _ (by omega), e _ _ (by omega)]; exact h.1.2.2.2.2.1
  · rw [e _ _ (by omega), e _ _ (by omega)]; exact h.2.2
  · rw [e _ _ (by omega), e _ _ (by omega)]; exact h.1.2.2.2.2.2
theorem payP_AG (u : Nat → Int32) (p q : Nat) (hp : p < 5) (hq : q < 5) : AG q u (payP u p) := by
  unfold payP
  refine ⟨fun k a b => ?_, fun k a b => ?_, fun k a b => ?_, fun i a => ?_, ?_, ?_⟩ <;> rw [upd_n _ _ _ (by omega), upd_n _ _ _ (by omega)]
theorem evo_NW {u : Nat → Int32} (hT : nT u ≤ 10) (hL : LWo u) {p : Nat} (hp : p < 5) : NW p u (ageP (payP u p) p) := by
  have hA := payP_AG u p p hp hp
  have e : ∀ k, k ≠ 13 + 4 * p → k ≠ 15 + 4 * p → k ≠ 32 + 4 * p → k ≠ 34 + 4 * p → ageP (payP u p) p k = u k := fun k a b c d => by
    unfold ageP; rw [upd_n _ _ _ b, upd_n _ _ _ a]; unfold payP; rw [upd_n _ _ _ d, upd_n _ _ _ c]
  refine ⟨fun k a b => e k (by omega) (by omega) (by omega) (by omega), fun k a b => e k (by omega) (by omega) (by omega) (by omega), fun k a b => e k (by omega) (by omega) (by omega) (by omega), e _ (by omega) (by omega) (by omega) (by omega), e _ (by omega) (by omega) (by omega) (by omega), e _ (by omega) (by omega) (by omega) (by omega), e _ (by omega) (by omega) (by omega) (by omega), ?_, ?_, ?_, ?_⟩
  · unfold ageP; rw [upd_n _ _ _ (by omega), upd_e, hA.eqNA hT hL]
  · unfold ageP; rw [upd_e, hA.eqNB hT hL]
  · unfold ageP; rw [upd_n _ _ _ (by omega), upd_n _ _ _ (by omega)]; unfold payP; rw [upd_n _ _ _ (by omega), upd_e]
  · unfold ageP; rw [upd_n _ _ _ (by omega), upd_n _ _ _ (by omega)]; unfold payP; rw [upd_e]
/-- the other planks are left alone -/
theorem evo_SM (u : Nat → Int32) {p q : Nat} (hp : p < 5) (hq : q < 5) (h : q ≠ p) : SM q u (ageP (payP u p) p) := by
  have e : ∀ k, k ≠ 13 + 4 * p → k ≠ 15 + 4 * p → k ≠ 32 + 4 * p → k ≠ 34 + 4 * p → ageP (payP u p) p k = u k := fun k a b c d => by
    unfold ageP; rw [upd_n _ _ _ b, upd_n _ _ _ a]; unfold payP; rw [upd_n _ _ _ d, upd_n _ _ _ c]
  refine SM.ofs (fun k a b => ?_) (fun k a b => ?_) (fun k a b => ?_) ?_ ?_ ?_ ?_ ?_ ?_ ?_ ?_ <;> exact e _ (by omega) (by omega) (by omega) (by omega)
theorem ref_NW {w : Nat → Int32} (hI : WInv w) (hL : LWo w) {p : Nat} (hp : p < nP w) : NW p w (ageTo (payTo w (2 * nP w)) (nP w)) := by
  have h5 := hI.p5
  have hA := payTo_AG w p (2 * nP w) (by omega) (by omega)
  have e : ∀ k, (∀ p, p < nP w → k ≠ 13 + 4 * p ∧ k ≠ 15 + 4 * p) → (∀ h, h < 2 * nP w → k ≠ 32 + 2 * h) → ageTo (payTo w (2 * nP w)) (nP w) k = w k := fun k a b => by
    rw [ageTo_ne _ _ a, payTo_ne _ _ b]
  refine ⟨fun k a b => e k (fun _ _ => by omega) (fun _ _ => by omega), fun k a b => e k (fun _ _ => by omega) (fun _ _ => by omega), fun k a b => e k (fun _ _ => by omega) (fun _ _ => by omega), e _ (fun _ _ => by omega) (fun _ _ => by omega), e _ (fun _ _ => by omega) (fun _ _ => by omega), e _ (fun _ _ => by omega) (fun _ _ => by omega), e _ (fun _ _ => by omega) (fun _ _ => by omega), ?_, ?_, ?_, ?_⟩
  · rw [ageTo_a, if_pos hp, hA.eqNA hI.t10 hL]
  · rw [ageTo_b, if_pos hp, hA.eqNB hI.t10 hL]
  · rw [ageTo_ne _ _ (fun _ _ => by omega), show 32 + 4 * p = 32 + 2 * (2 * p) from by omega, payTo_at, if_pos (by omega)]
  · rw [ageTo_ne _ _ (fun _ _ => by omega), show 34 + 4 * p = 32 + 2 * (2 * p + 1) from by omega, payTo_at, if_pos (by omega)]
def evoW (u : Nat → Int32) (p : Nat) : Nat → Int32 := weekW (ageP (payP u p) p)
theorem evo_calm {w u : Nat → Int32} (hI : WInv w) (hL : LWo w) {p : Nat} (hp : p < nP w) (h : SM p w u) (hLu : LWo u) : SM p (calmW w) (evoW u p) := by
  have h5 := hI.p5
  have hT := hI.t10
  exact (NW.sm hI.t10 hL h (ref_NW hI hL hp) (evo_NW (by rw [h.1.eqT]; exact hT) hLu (by omega))).week
theorem brk_calm {w u : Nat → Int32} (hI : WInv w) (hL : LWo w) {p : Nat} (hp : p < nP w) (h : AG p w u) (hLu : LWo u) : AG p (calmW w) (weekW (ageP u p)) := by
  have h5 := hI.p5
  have hT := hI.t10
  obtain ⟨x1, x2, x3, xa, xb, xc, xd, xe, xf, -, -⟩ := ref_NW hI hL hp
  have e : ∀ k, k ≠ 13 + 4 * p → k ≠ 15 + 4 * p → k ≠ 4 → weekW (ageP u p) k = u k := fun k a b c => by
    unfold weekW; rw [upd_n _ _ _ c]; unfold ageP; rw [upd_n _ _ _ b, upd_n _ _ _ a]
  have e' : ∀ k, k ≠ 4 → calmW w k = ageTo (payTo w (2 * nP w)) (nP w) k := fun k c => by unfold calmW weekW; rw [upd_n _ _ _ c]
  refine ⟨fun k a b => ?_, fun k a b => ?_, fun k a b => ?_, fun i a => ?_, ?_, ?_⟩
  · by_cases q : k = 4
    · subst q
      unfold calmW weekW
      rw [upd_e, upd_e, x1 4 (by omega) (by omega)]
      unfold ageP; rw [upd_n _ _ _ (by omega), upd_n _ _ _ (by omega), h.1 4 (by omega) (by omega)]
    · rw [e k (by omega) (by omega) q, e' k q, x1 k a b]; exact h.1 k a b
  · rw [e k (by omega) (by omega) (by omega), e' k (by omega), x2 k a b]; exact h.2.1 k a b
  · rw [e k (by omega) (by omega) (by omega), e' k (by omega), x3 k a b]; exact h.2.2.1 k a b
  · rcases (by omega : i = 0 ∨ i = 1 ∨ i = 2 ∨ i = 3) with rfl | rfl | rfl | rfl
    · rw [e _ (by omega) (by omega) (by omega), e' _ (by omega), show 12 + 4 * p + 0 = 12 + 4 * p from rfl, xa]; exact h.bears
    · rw [show 12 + 4 * p + 1 = 13 + 4 * p from by omega, e' _ (by omega), xe]
      unfold weekW; rw [upd_n _ _ _ (by omega)]; unfold ageP; rw [upd_n _ _ _ (by omega), upd_e]; exact h.eqNA hT hL
    · rw [show 12 + 4 * p + 2 = 14 + 4 * p from by omega, e _ (by omega) (by omega) (by omega), e' _ (by omega), xb]; exact h.prop
    · rw [show 12 + 4 * p + 3 = 15 + 4 * p from by omega, e' _ (by omega), xf]
      unfold weekW; rw [upd_n _ _ _ (by omega)]; unfold ageP; rw [upd_e]; exact h.eqNB hT hL
  · rw [e _ (by omega) (by omega) (by omega), e' _ (by omega), xc]; exact h.2.2.2.2.1
  · rw [e _ (by omega) (by omega) (by omega), e' _ (by omega), xd]; exact h.2.2.2.2.2
-- the class: one plank
theorem HF.ag {v : St} {w u : Nat → Int32} {p q : Nat} (hF : HF v w q) (h : AG p w u) (hT : nT w ≤ 10) (hq : q / 2 = p) : HF v u q := by
  obtain ⟨f1, f2, f3, f4, f5⟩ := hF
  refine ⟨by rw [f1, h.height hT hq], by rw [f2, h.load hT hq], by rw [f3, h.guests hq], ?_, by rw [f5, h.1 4 (by omega) (by omega)]⟩
  rw [f4, hq, h.age]
theorem HF.fr {v v' : St} {w : Nat → Int32} {q : Nat} (hF : HF v w q) {S : List Nat} (hf : Fr S v v') (h : 19 ∉ S ∧ 18 ∉ S ∧ 14 ∉ S ∧ 10 ∉ S ∧ 7 ∉ S) : HF v' w q := by
  unfold HF
  rw [hf 19 h.1, hf 18 h.2.1, hf 14 h.2.2.1, hf 10 h.2.2.2.1, hf 7 h.2.2.2.2]; exact hF
theorem payP_I {u : Nat → Int32} (hI : WInv u) {p : Nat} (hp : p < nP u) : WInv (payP u p) := by
  have h5 := hI.p5
  have e1 : nP (upd u (32 + 2 * (2 * p)) (newP u (2 * p))) = nP u := by unfold nP; rw [upd_n _ _ _ (by omega)]
  have := (hI.u_purse (q := 2 * p) (by omega) (newP u (2 * p))).u_purse (q := 2 * p + 1) (by rw [e1]; omega) (newP u (2 * p + 1))
  unfold payP
  rwa [show 32 + 2 * (2 * p) = 32 + 4 * p from by omega, show 32 + 2 * (2 * p + 1) = 34 + 4 * p from by omega] at this
theorem payG {n : Nat} (hn : 5000 < n) {u : Nat → Int32} (hI : WInv u) {v L : St} (hB : HB v u) (hL : LR L u) {p : Nat} (hp : p < nP u) (hF0 : HF v u (2 * p)) (hF1 : HF v u (2 * p + 1)) :
    Ok (m_X3_payRents n v L (J p)) (fun r => HB r.1 (payP u p) ∧ Fr [6] L r.2 ∧ Fr [13] v r.1) := by
  have h5 := hI.p5
  have hLo := hL.o
  unfold m_X3_payRents
  rw [if_pos (J_ix (by omega) (by omega)), J_nat (by omega), hB.broken hp]
  by_cases hb : u (15 + 4 * p) = 1
  · rw [hb, if_neg (by decide)]
    refine ok_some ⟨?_, Fr.rfl _ _, Fr.rfl _ _⟩
    dsimp only
    have e1 : newP u (2 * p) = u (32 + 4 * p) := by unfold newP; rw [show 2 * p / 2 = p from by omega, if_pos hb, show 32 + 2 * (2 * p) = 32 + 4 * p from by omega]
    have e2 : newP u (2 * p + 1) = u (34 + 4 * p) := by unfold newP; rw [show (2 * p + 1) / 2 = p from by omega, if_pos hb, show 32 + 2 * (2 * p + 1) = 34 + 4 * p from by omega]
    unfold payP
    rw [upd_same u e1.symm, upd_same u e2.symm]; exact hB
  · have hb0 : u (15 + 4 * p) = 0 := by
      rcases (hI.pl hp).2.2.2 with h | h
      · exact h
      · exact absurd h hb
    have en : ∀ q, q / 2 = p → x_max 0 (u (32 + 2 * q) - paysS u q) = newP u q := fun q hq => by unfold newP; rw [hq, if_neg hb]
    rw [hb0, if_pos rfl, nm_s, J_dbl]
    obtain ⟨m, rfl⟩ : ∃ m, n = m + 1 + 1 + 1 := ⟨n - 3, by omega⟩
    generalize hn' : m + 1 + 1 + 1 = n' at hn ⊢
    rw [← hn']
    -- round 1
    show Ok (if J (2 * p) + 2 ≤ J (2 * p) then _ else if ix (J (2 * p)) 10 then bd (m_X3_paysBy _ v L (J (2 * p))) _ else none) _
    rw [if_neg (by rw [show (2 : Int32) = J 2 from rfl, J_add, J_le (by omega) (by omega)]; omega), if_pos (J_ix (by omega) (by omega))]
    rw [hn']
    refine ok_bd2 (XpaysBy1 hn hL hF0 hB.fee (by omega)) ?_
    rintro ⟨a, L2⟩ ⟨g, ga⟩
    dsimp only at g ga ⊢
    subst ga
    rw [if_pos (J_ix (by omega) (by omega)), nm_s, J_nat (by omega), hB.purse (by omega), en (2 * p) (by omega), J_dbl1]
    have hB1 := hB.u_purse hI (q := 2 * p) (by omega) (newP u (2 * p))
    have hf1 : Fr [13] v (su v 13 (2 * p) (newP u (2 * p))) := (Fr.rfl _ _).put (by simp) _ _
    have hp1 : su v 13 (2 * p) (newP u (2 * p)) 13 (2 * p + 1) = u (32 + 2 * (2 * p + 1)) := by rw [su_e, upd_n _ _ _ (by omega)]; exact hB.purse (by omega)
    generalize su v 13 (2 * p) (newP u (2 * p)) = v1 at hB1 hf1 hp1 ⊢
    -- round 2
    show Ok (if J (2 * p) + 2 ≤ J (2 * p + 1) then _ else if ix (J (2 * p + 1)) 10 then bd (m_X3_paysBy _ v1 L2 (J (2 * p + 1))) _ else none) _
    rw [if_neg (by rw [show (2 : Int32) = J 2 from rfl, J_add, J_le (by omega) (by omega)]; omega), if_pos (J_ix (by omega) (by omega))]
    refine ok_bd2 (XpaysBy1 hn (hL.fr g) (hF1.fr hf1 (by simp)) (by rw [hf1 6 (by simp)]; exact hB.fee) (by omega)) ?_
    rintro ⟨a, L3⟩ ⟨g2, ga⟩
    dsimp only at g2 ga ⊢
    subst ga
    rw [if_pos (J_ix (by omega) (by omega)), nm_s, J_nat (by omega), hp1, en (2 * p + 1) (by omega), J_succ]
    have e1 : nP (upd u (32 + 2 * (2 * p)) (newP u (2 * p))) = nP u := by unfold nP; rw [upd_n _ _ _ (by omega)]
    have hB2 := hB1.u_purse (hI.u_purse (q := 2 * p) (by omega) _) (q := 2 * p + 1) (by rw [e1]; omega) (newP u (2 * p + 1))
    have hf2 : Fr [13] v (su v1 13 (2 * p + 1) (newP u (2 * p + 1))) := hf1.put (by simp) _ _
    generalize su v1 13 (2 * p + 1) (newP u (2 * p + 1)) = v2 at hB2 hf2 ⊢
    -- the end
    show Ok (if J (2 * p) + 2 ≤ J (2 * p + 1 + 1) then some (v2, L3) else _) _
    rw [if_pos (by rw [show (2 : Int32) = J 2 from rfl, J_add, J_le (by omega) (by omega)]; omega)]
    refine ok_some ⟨?_, g.tr g2, hf2⟩
    dsimp only
    unfold payP
    rwa [show 32 + 2 * (2 * p) = 32 + 4 * p from by omega, show 32 + 2 * (2 * p + 1) = 34 + 4 * p from by omega] at hB2
end PAHEAD
