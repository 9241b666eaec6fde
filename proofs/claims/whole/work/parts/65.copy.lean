section PCOPY
def HCopy (r b : St) : Prop := (∀ f, f < 9 → r f 0 = b f 0) ∧ (∀ k, k < 5 → r 9 k = b 9 k ∧ r 10 k = b 10 k ∧ r 11 k = zb (b 11 k) ∧ r 12 k = zb (b 12 k)) ∧ (∀ k, k < 10 → ∀ f, 13 ≤ f → f ≤ 19 → r f k = b f k)
theorem sA_a (v : St) (f : Nat) (g : Nat → Int32) (h : Nat) : sA v f g h = if h = f then g else v h := rfl
theorem su_a (v : St) (f k : Nat) (x : Int32) (h : Nat) : su v f k x h = if h = f then upd (v f) k x else v h := rfl
theorem cpy0 (f g : Nat → Int32) (n k : Nat) (h : k < n) : va_cpy f g 0 0 n k = f k := by
  unfold va_cpy; rw [if_pos (by omega)]; congr 1; omega
theorem copyX {n : Nat} (hn : 5000 < n) (a b : St) : Ok (m_X3_copyFrom n a b) (fun r => HCopy r b) := by
  unfold m_X3_copyFrom
  simp only [nm_s]
  generalize hu : su (su (su (su (su (su (su (su (su a 0 0 (b 0 0)) 1 0 (b 1 0)) 2 0 (b 2 0)) 3 0 (b 3 0)) 4 0 (b 4 0)) 5 0 (b 5 0)) 6 0 (b 6 0)) 7 0 (b 7 0)) 8 0 (b 8 0) = u
  have h0 : ∀ f, f < 9 → u f 0 = b f 0 := by
    intro f hf
    rw [← hu]
    rcases (by omega : f = 0 ∨ f = 1 ∨ f = 2 ∨ f = 3 ∨ f = 4 ∨ f = 5 ∨ f = 6 ∨ f = 7 ∨ f = 8) with rfl | rfl | rfl | rfl | rfl | rfl | rfl | rfl | rfl <;> simp [su_a, upd_a]
  clear hu
  refine ok_bd2 (P := fun x => Fr [11, 12] u x ∧ ∀ k, k < 5 → x 11 k = zb (b 11 k) ∧ x 12 k = zb (b 12 k)) ?_ ?_
  · refine ok_forE (fun k x => (J k, x)) 5 (fun j x => Fr [11, 12] u x ∧ ∀ k, k < j → x 11 k = zb (b 11 k) ∧ x 12 k = zb (b 12 k)) ?_ ?_ (by omega) u rfl ⟨Fr.rfl _ _, fun h hh => absurd hh (by omega)⟩
    · rintro rc j x hj ⟨hf, hl⟩ ih
      have e : ¬ (5 : Int32) ≤ J j := by rw [show (5 : Int32) = J 5 from rfl, J_le (by omega) (by omega)]; omega
      simp (disch := omega) only [e, ↓reduceIte, ix_J, J_nat, nm_s, J_succ]
      refine ih _ ⟨(hf.put (by simp) _ _).put (by simp) _ _, fun k hk => ?_⟩
      simp only [su_a, upd_a, show ¬ ((11 : Nat) = 12) from by decide, show ¬ ((12 : Nat) = 11) from by decide, if_true, if_false]
      by_cases q : k = j
      · subst q; simp
      · rw [if_neg q, if_neg q]; exact hl k (by omega)
    · rintro rc x hx
      have e : (5 : Int32) ≤ J 5 := by decide
      simp only [e, ↓reduceIte]
      exact ok_some hx
  rintro x ⟨hf, hx⟩
  refine ok_some ⟨fun f hf9 => ?_, fun k hk => ?_, fun k hk f h1 h2 => ?_⟩
  · have e : ∀ g, 9 ≤ g → ¬ f = g := fun g hg => by omega
    simp only [sA_a, e 9 (by omega), e 10 (by omega), e 13 (by omega), e 14 (by omega), e 15 (by omega), e 16 (by omega), e 17 (by omega), e 18 (by omega), e 19 (by omega), if_false]
    rw [hf f (by simp; omega)]; exact h0 f hf9
  · obtain ⟨q1, q2⟩ := hx k hk
    simp [sA_a, cpy0 _ _ 5 k hk, q1, q2]
  · rcases (by omega : f = 13 ∨ f = 14 ∨ f = 15 ∨ f = 16 ∨ f = 17 ∨ f = 18 ∨ f = 19) with rfl | rfl | rfl | rfl | rfl | rfl | rfl <;> simp [sA_a, cpy0 _ _ 10 k hk]
theorem zb_b {x : Int32} (h : isb x) : zb x = x := by rcases h with rfl | rfl <;> decide
theorem HR.copy {r b : St} {w : Nat → Int32} (h : HR b w) (hc : HCopy r b) : HR r w := by
  obtain ⟨hI, hB, hW⟩ := h
  obtain ⟨c0, c1, c2⟩ := hc
  have h5 := hI.p5
  have h10 := hI.t10
  refine ⟨hI, ⟨?_, ?_, ?_, ?_, ?_, ?_, ?_, ?_, ?_, fun p hp => ?_, fun q hq => ?_, fun t ht => ?_⟩, fun q hq => ?_⟩
  · rw [c0 0 (by omega)]; exact hB.p
  · rw [c0 1 (by omega)]; exact hB.t
  · rw [c0 2 (by omega)]; exact hB.snow
  · rw [c0 3 (by omega)]; exact hB.step
  · rw [c0 4 (by omega)]; exact hB.fall
  · rw [c0 5 (by omega)]; exact hB.thieves
  · rw [c0 6 (by omega)]; exact hB.fee
  · rw [c0 7 (by omega)]; exact hB.week
  · rw [c0 8 (by omega)]; exact hB.seed
  · obtain ⟨a1, a2, a3, a4⟩ := c1 p (by omega)
    have hb := (hI.pl hp).2.2
    rw [a1, a2, a3, a4, hB.bears hp, hB.age hp, hB.prop hp, hB.broken hp, zb_b hb.1, zb_b hb.2]
    exact ⟨rfl, rfl, rfl, rfl⟩
  · rw [c2 q (by omega) 13 (by omega) (by omega), c2 q (by omega) 14 (by omega) (by omega)]
    exact ⟨hB.purse hq, hB.guests hq⟩
  · rw [c2 t (by omega) 15 (by omega) (by omega), c2 t (by omega) 16 (by omega) (by omega), c2 t (by omega) 17 (by omega) (by omega)]
    exact ⟨hB.weight ht, hB.worth ht, hB.home ht⟩
  · rw [c2 q (by omega) 18 (by omega) (by omega), c2 q (by omega) 19 (by omega) (by omega)]
    exact hW q hq
theorem copyHR {n : Nat} (hn : 5000 < n) (a : St) {b : St} {w : Nat → Int32} (h : HR b w) : Ok (m_X3_copyFrom n a b) (fun r => HR r w) := (copyX hn a b).mono (fun _ hr => h.copy hr)
-- rows that are the same as far as it matters
def Eqw (w w' : Nat → Int32) : Prop := ∀ k, k < 82 → w' k = w k
theorem Eqw.eqP {w w' : Nat → Int32} (h : Eqw w w') : nP w' = nP w := by unfold nP; rw [h 0 (by omega)]
theorem Eqw.eqT {w w' : Nat → Int32} (h : Eqw w w') : nT w' = nT w := by unfold nT; rw [h 1 (by omega)]
theorem WInv.eq {w w' : Nat → Int32} (hI : WInv w) (h : Eqw w w') : WInv w' := by
  have h5 := hI.p5
  have h10 := hI.t10
  unfold WInv
  rw [h.eqP, h.eqT, h 0 (by omega), h 1 (by omega), h 6 (by omega), h 5 (by omega)]
  refine ⟨hI.1, hI.2.1, hI.2.2.1, hI.2.2.2.1, fun p hp => ?_, fun q hq => ?_, fun t ht => ?_⟩
  · rw [h _ (by omega), h _ (by omega), h _ (by omega), h _ (by omega)]; exact hI.pl hp
  · rw [h _ (by omega)]; exact hI.ho hq
  · rw [h _ (by omega), h _ (by omega), h _ (by omega)]; exact hI.th ht
theorem Eqw.eqWg {w w' : Nat → Int32} (h : Eqw w w') (hT : nT w ≤ 10) (x : Int32) : wgI w' x = wgI w x := by
  unfold wgI
  rw [h.eqT]
  apply foldN_congr
  intro k a hk
  rw [h _ (by omega), h _ (by omega)]
theorem Eqw.eqWo {w w' : Nat → Int32} (h : Eqw w w') (hT : nT w ≤ 10) (x : Int32) : woI w' x = woI w x := by
  unfold woI
  rw [h.eqT]
  apply foldN_congr
  intro k a hk
  rw [h _ (by omega), h _ (by omega)]
theorem Eqw.load {w w' : Nat → Int32} (h : Eqw w w') (hI : WInv w) {q : Nat} (hq : q < 10) : loadS w' q = loadS w q := by
  unfold loadS
  rw [h.eqWg hI.t10, h _ (by omega), h 5 (by omega)]
theorem Eqw.tilt {w w' : Nat → Int32} (h : Eqw w w') (hI : WInv w) {p : Nat} (hp : p < 5) : tiltS w' p = tiltS w p := by
  unfold tiltS
  rw [h.load hI (by omega), h.load hI (by omega), h 6 (by omega), h _ (by omega)]
theorem Eqw.height {w w' : Nat → Int32} (h : Eqw w w') (hI : WInv w) {q : Nat} (hq : q < 10) : heightS w' q = heightS w q := by
  unfold heightS
  rw [h.tilt hI (by omega), h _ (by omega)]
theorem HB.eq {v : St} {w w' : Nat → Int32} (hI : WInv w) (hB : HB v w) (h : Eqw w w') : HB v w' := by
  have h5 := hI.p5
  have h10 := hI.t10
  unfold HB
  rw [h.eqP, h.eqT, h 0 (by omega), h 1 (by omega), h 5 (by omega), h 6 (by omega), h 7 (by omega), h 8 (by omega), h 9 (by omega), h 4 (by omega), h 11 (by omega)]
  refine ⟨hB.p, hB.t, hB.snow, hB.step, hB.fall, hB.thieves, hB.fee, hB.week, hB.seed, fun p hp => ?_, fun q hq => ?_, fun t ht => ?_⟩
  · rw [h _ (by omega), h _ (by omega), h _ (by omega), h _ (by omega)]; exact ⟨hB.bears hp, hB.age hp, hB.prop hp, hB.broken hp⟩
  · rw [h _ (by omega), h _ (by omega)]; exact ⟨hB.purse hq, hB.guests hq⟩
  · rw [h _ (by omega), h _ (by omega), h _ (by omega)]; exact ⟨hB.weight ht, hB.worth ht, hB.home ht⟩
theorem HR.eq {v : St} {w w' : Nat → Int32} (hR : HR v w) (h : Eqw w w') : HR v w' := by
  have h5 := hR.1.p5
  refine ⟨hR.1.eq h, hR.2.1.eq hR.1 h, fun q hq => ?_⟩
  rw [h.eqP] at hq
  rw [h.load hR.1 (by omega), h.height hR.1 (by omega)]
  exact hR.2.2 q hq
-- the diary
def DR (d : St) (w : Nat → Int32) : Prop := ∃ r, r ≤ 60 ∧ d 0 0 = J r ∧ w 10 = J r ∧ ∀ a c, a < r → c < 5 → d 1 ((r - 1 - a) * 5 + c) = w (82 + 5 * a + c)
def DW (d : St) : Prop := ∃ r, r ≤ 60 ∧ d 0 0 = J r
theorem DR.dw {d : St} {w : Nat → Int32} (h : DR d w) : DW d := by obtain ⟨r, h1, h2, -⟩ := h; exact ⟨r, h1, h2⟩
theorem DR.eq {d : St} {w w' : Nat → Int32} (hD : DR d w) (h : ∀ k, k < 382 → w' k = w k) : DR d w' := by
  obtain ⟨r, h1, h2, h3, h4⟩ := hD
  exact ⟨r, h1, h2, by rw [h 10 (by omega)]; exact h3, fun a c ha hc => by rw [h _ (by omega)]; exact h4 a c ha hc⟩
theorem copyD1 (a b : St) (k : Nat) (hk : k < 300) : sA (su a 0 0 (b 0 0)) 1 (va_cpy (b 1) (su a 0 0 (b 0 0) 1) 0 0 300) 1 k = b 1 k := by
  rw [sA_e]; exact cpy0 _ _ 300 k hk
theorem copyD0 (a b : St) (x : Nat → Int32) : sA (su a 0 0 (b 0 0)) 1 x 0 0 = b 0 0 := by
  rw [sA_n _ _ _ (by decide), su00]
theorem copyDe (n : Nat) (a b : St) : m_X1_copyFrom n a b = some (sA (su a 0 0 (b 0 0)) 1 (va_cpy (b 1) (su a 0 0 (b 0 0) 1) 0 0 300)) := by
  unfold m_X1_copyFrom
  rw [nm_s, nm_s]
theorem copyD (n : Nat) (a : St) {b : St} {w : Nat → Int32} (h : DR b w) : Ok (m_X1_copyFrom n a b) (fun r => DR r w) := by
  obtain ⟨r, h1, h2, h3, h4⟩ := h
  rw [copyDe]
  refine ok_some ⟨r, h1, ?_, h3, fun q c hq hc => ?_⟩
  · rw [copyD0]; exact h2
  · rw [copyD1 a b _ (by omega)]; exact h4 q c hq hc
-- the law
theorem tyR_congr {g g' : Nat → Nat} : ∀ (d i : Nat) (ts : List Bool), (∀ k, i ≤ k → k < i + d → g' k = g k) → tyR g' i d ts = tyR g i d ts
  | 0, _, _, _ => rfl
  | d + 1, i, ts, h => by
    unfold tyR
    rw [h i (by omega) (by omega)]
    cases tyS (g i) ts with
    | none => rfl
    | some ts' =>
      dsimp only
      rw [tyR_congr d (i + 1) ts' (fun k h1 h2 => h k (by omega) (by omega))]
theorem frS_eq {w w' : Nat → Int32} (et : ∀ l, l < 12 → lt w' l = lt w l) : ∀ l, l < 12 → frS w' l = frS w l
  | 0, _ => rfl
  | l + 1, h => et l (by omega)
theorem LW.eq {w w' : Nat → Int32} (hL : LW w) (h : ∀ k, 382 ≤ k → k < 1231 → w' k = w k) : LW w' := by
  obtain ⟨a1, a2, a3⟩ := hL
  have en : nL w' = nL w := by unfold nL; rw [h 382 (by omega) (by omega)]
  refine ⟨by rw [en, h 382 (by omega) (by omega)]; exact a1, by rw [en]; exact a2, fun l hl => ?_⟩
  rw [en] at hl
  obtain ⟨⟨b1, b2, b3, b4, b5, b6, b7⟩, c1, c2⟩ := a3 l hl
  have ef : lf w' l = lf w l := by unfold lf; rw [h _ (by omega) (by omega)]
  have et : ∀ l, l < 12 → lt w' l = lt w l := fun l hl => by unfold lt; rw [h _ (by omega) (by omega)]
  have eg : ∀ i, i < 400 → lg w' i = lg w i := fun i hi => by unfold lg; rw [h _ (by omega) (by omega)]
  have etr : ∀ d i ts, i + d ≤ 400 → tyR (lg w') i d ts = tyR (lg w) i d ts := fun d i ts hi => tyR_congr d i ts (fun k h1 h2 => eg k (by omega))
  have h12 : l < 12 := by omega
  refine ⟨⟨?_, ?_, ?_, ?_, ?_, ?_, fun i h1 h2 => ?_⟩, ?_, ?_⟩
  · rw [ef, h _ (by omega) (by omega)]; exact b1
  · rw [et l h12, h _ (by omega) (by omega)]; exact b2
  · rw [ef, et l h12]; exact b3
  · rw [et l h12]; exact b4
  · rw [h _ (by omega) (by omega)]; exact b5
  · rw [ef, et l h12, etr _ _ _ (by omega)]; exact b6
  · rw [ef] at h1; rw [et l h12] at h2
    rw [eg i (by omega), h _ (by omega) (by omega)]
    obtain ⟨d1, d2, d3⟩ := b7 i h1 h2
    exact ⟨d1, d2, fun q => by unfold la; rw [h _ (by omega) (by omega)]; exact d3 q⟩
  · rw [ef, c1, frS_eq et l h12]
  · rw [h _ (by omega) (by omega)]; exact c2
theorem LWo.eq {w w' : Nat → Int32} (hL : LWo w) (h : ∀ k, 382 ≤ k → k < 1231 → w' k = w k) (h3 : w' 3 = w 3) : LWo w' := by
  rcases hL with h0 | ⟨h1, hl⟩
  · exact .inl (by rw [h3]; exact h0)
  · exact .inr ⟨by rw [h3]; exact h1, hl.eq h⟩
theorem LR.eq {L : St} {w w' : Nat → Int32} (hL : LR L w) (h : ∀ k, 382 ≤ k → k < 1231 → w' k = w k) (h3 : w' 3 = w 3) : LR L w' := by
  have hL0 := hL
  rcases hL with ⟨h0, hm⟩ | ⟨h1, hlw, hc, hS⟩
  · exact .inl ⟨by rw [h3]; exact h0, hm⟩
  · have hw : LW w' := hlw.eq h
    have en : nL w' = nL w := by unfold nL; rw [h 382 (by omega) (by omega)]
    refine .inr ⟨by rw [h3]; exact h1, hw, by rw [en]; exact hc, fun l hl => ?_⟩
    rw [en] at hl
    have h12 : l < 12 := by have := hlw.2.1; omega
    have ef : lf w' l = lf w l := by unfold lf; rw [h _ (by omega) (by omega)]
    have et : lt w' l = lt w l := by unfold lt; rw [h _ (by omega) (by omega)]
    have h400 := ((hlw.2.2 l hl).1).2.2.2.1
    obtain ⟨s1, s2, s3, s4⟩ := hS l hl
    refine ⟨by rw [h _ (by omega) (by omega)]; exact s1, by rw [h _ (by omega) (by omega)]; exact s2, by rw [et]; exact s3, fun i a b => ?_⟩
    rw [ef] at a; rw [et] at b
    unfold lg la
    rw [h _ (by omega) (by omega), h _ (by omega) (by omega)]
    exact s4 i a b
theorem copyL (n : Nat) (a : St) {b : St} {w : Nat → Int32} (h : LR b w) : Ok (m_X5_copyFrom n a b) (fun r => LR r w) := by
  unfold m_X5_copyFrom
  refine ok_some ?_
  rcases h with ⟨h0, hm⟩ | ⟨h1, hlw, hc, hS⟩
  · exact .inl ⟨h0, by simp [sA_a, su_a, upd_a, hm]⟩
  · refine .inr ⟨h1, hlw, by simp [sA_a, su_a, upd_a, hc], fun l hl => ?_⟩
    have h12 : l < 12 := by have := hlw.2.1; omega
    obtain ⟨s1, s2, s3, s4⟩ := hS l hl
    have h400 := ((hlw.2.2 l hl).1).2.2.2.1
    refine ⟨by simp [sA_a, cpy0 _ _ 12 l h12, s1], by simp [sA_a, cpy0 _ _ 12 l h12, s2], by simp [sA_a, cpy0 _ _ 12 l h12, s3], fun i a b => ?_⟩
    have : i < 400 := by omega
    simp [sA_a, cpy0 _ _ 400 i this, s4 i a b]
end PCOPY
