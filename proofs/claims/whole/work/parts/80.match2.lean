section PMATCH2
theorem EV2.P {P c s : Nat} (h : EV2 P c s) : popN s 10 / 2 = c := by have := h.2.1; omega
theorem diffR {n : Nat} (hn : 5000 < n) {u : St} (hI : WInv (u 1)) {s a b : Nat} (hs : s < 1024) (ha : a < 2 * nP (u 1)) (hb : b < 2 * nP (u 1)) : m_X12_differBy n u (J s) (J a) (J b) = some (J (dfN (u 1) a b) + u 18 (clr (clr s a) b)) := by
  have h5 := hI.p5
  have c1 := clr_le s a
  have c2 := clr_le (clr s a) b
  unfold m_X12_differBy
  rw [loadOf_s hn u hI (by omega), bd_s, loadOf_s hn u hI (by omega), bd_s, sub_J hs (by omega) (by omega), if_pos (J_ix (by omega) (by omega)), J_nat (by omega), (lg_J hI ha).1, (lg_J hI hb).1, abs_J (lg_J hI ha).2 (lg_J hI hb).2]; rfl
/-- the table of the reference -/
def TB (w : Nat → Int32) (S : Nat) (tab : Nat → Int32) (K : Nat) : Prop := ∀ c s, s < K → EV2 (nP w) c s → (J s &&& J S) = J s → tab s = J (Mf w c s)
theorem sub_clr {s S a : Nat} (hs : s < 1024) (hS : S < 1024) (ha : a < 10) (h : (J s &&& J S) = J s) : (J (clr s a) &&& J S) = J (clr s a) := by
  rw [← clr_J hs ha]
  apply tb_ext
  intro k hk
  have := congrArg (fun z => tb z k) h
  simp only [tb_and] at this ⊢
  revert this
  cases tb (J s) k <;> cases tb (J S) k <;> simp
theorem laysR {n : Nat} (hn : 5000 < n) (V : St) (hI : WInv (V 1)) {S : Nat} (hS : S < 1024) (hSP : ∀ k, k < 10 → S.testBit k = true → k < 2 * nP (V 1)) (hS8 : popN S 10 ≤ 8) :
    Ok (m_X12_laysDiffer n V (J S)) (fun r => Fr [18] V r ∧ TB (V 1) S (r 18) (S + 1)) := by
  have h5 := hI.p5
  unfold m_X12_laysDiffer
  rw [nm_s]
  refine ok_forE (fun k (x : St) => (J (k + 1), x)) S (fun k x => Fr [18] V x ∧ TB (V 1) S (x 18) (k + 1)) ?_ ?_ (by omega) _ rfl ⟨(Fr.rfl _ _).put (by simp) _ _, ?_⟩
  · rintro rc k x hk ⟨hf, hT⟩ ih
    have e1 : x 1 = V 1 := hf 1 (by simp)
    have hIx : WInv (x 1) := by rw [e1]; exact hI
    simp (disch := omega) only [J_lt, show ¬ S < k + 1 from by omega, ↓reduceIte, and_sub, bc_s, bcF_J, bd_s, J_succ (k + 1)]
    by_cases q : (J (k + 1) &&& J S) = J (k + 1)
    · rw [if_pos q]
      have hpl := popN_le (k + 1) 10
      have hrem : x_rem (J (popN (k + 1) 10)) 2 = 1 ↔ popN (k + 1) 10 % 2 = 1 := by
        have : ∀ h : Nat, h < 11 → (x_rem (J h) 2 = 1 ↔ h % 2 = 1) := by decide +kernel
        exact this _ (by omega)
      by_cases q2 : popN (k + 1) 10 % 2 = 1
      · rw [if_pos (hrem.mpr q2), bd_s]
        refine ih x ⟨hf, fun c s hs he hsub => ?_⟩
        by_cases e : s = k + 1
        · exfalso; have := he.2.1; rw [e] at this; omega
        · exact hT c s (by omega) he hsub
      · rw [if_neg (fun h => q2 (hrem.mp h))]
        obtain ⟨c, hc⟩ : ∃ c, popN (k + 1) 10 = 2 * c := ⟨popN (k + 1) 10 / 2, by omega⟩
        have hE : EV2 (nP (V 1)) c (k + 1) := ⟨by omega, hc, fun j hj hb => by
          have := congrArg (fun z => tb z j) q
          simp only [tb_and, tb_J (show j < 32 by omega), hb, Bool.true_and] at this
          exact hSP j hj this⟩
        have hc0 : c ≠ 0 := fun h => by have := pop_0 (s := k + 1) (by omega) (by omega); omega
        obtain ⟨c, rfl⟩ : ∃ j, c = j + 1 := ⟨c - 1, by omega⟩
        have hne := hE.ne
        obtain ⟨l1, l2⟩ := low_tb hE.1 hne
        have hM := Mf_le hI (c + 1) (k + 1) hE
        have hkl := mnK_le (V 1) c (k + 1)
        have hrm : ∀ i, i < 10 - (lowN (k + 1) + 1) → (k + 1).testBit (lowN (k + 1) + 1 + i) = true → EV2 (nP (V 1)) c (clr (clr (k + 1) (lowN (k + 1))) (lowN (k + 1) + 1 + i)) ∧ clr (clr (k + 1) (lowN (k + 1))) (lowN (k + 1) + 1 + i) < k + 1 := fun i hi q => hE.rm hi q
        have hsu := mnK_succ (V 1) c (k + 1)
        have hh := hE.2.2
        have hMs := Mf_succ (V 1) c (k + 1)
        have hntz := ntz_J n hE.1 hne
        rw [hMs] at hM
        have hsc := clr_le (k + 1) (lowN (k + 1))
        have hk10 : k + 1 < 1024 := by omega
        generalize lowN (k + 1) = a at l1 l2 hM hrm hsu hMs hntz hsc
        rw [hntz, bd_s, nm_s, J_succ a]
        refine (show Ok (bd (bd (lp _ n _) _) _) _ from ?_)
        refine ok_bd (ok_bd2 (P := fun r => r = J (Mf (V 1) (c + 1) (k + 1))) ?_ ?_)
        · refine ok_eq (lp_seq (r := J (mnK (V 1) c (k + 1) (10 - (a + 1)))) (fun i => (J (mnK (V 1) c (k + 1) i), J (a + 1 + i))) (10 - (a + 1)) (fun rc i hi => ?_) (fun rc => ?_) (by omega) ?_) (by rw [hMs])
          · have e : ¬ (10 : Int32) ≤ J (a + 1 + i) := by rw [show (10 : Int32) = J 10 from rfl, J_le (by omega) (by omega)]; omega
            simp (disch := omega) only [e, ↓reduceIte, holds_s, bd_s, tb_J, J_succ (a + 1 + i)]
            rw [show a + 1 + (i + 1) = a + 1 + i + 1 from rfl, hsu]
            by_cases qb : (k + 1).testBit (a + 1 + i) = true
            · obtain ⟨r1, r2⟩ := hrm i hi qb
              have ha2 := hh _ l1 l2
              have hb2 := hh _ (show a + 1 + i < 10 by omega) qb
              have hsub := sub_clr (s := clr (k + 1) a) (S := S) (a := a + 1 + i) (by omega) hS (by omega) (sub_clr hk10 hS l1 q)
              have ht := hT c _ r2 r1 hsub
              have m1 := Mf_le hI c _ r1
              have d1 := dfN_le hI ha2 hb2
              have hk1 := hkl i
              rw [show b2i ((k + 1).testBit (a + 1 + i) = true) = 1 from if_pos qb, if_neg (by decide), if_pos qb, diffR hn hIx hk10 (by rw [e1]; exact ha2) (by rw [e1]; exact hb2), bd_s, nm_s, bd_s, e1, ht, J_add]
              have c8 : c ≤ 8 := by omega
              rw [J_min (by omega) (by omega)]
            · rw [show b2i ((k + 1).testBit (a + 1 + i) = true) = 0 from if_neg qb, if_pos rfl, if_neg qb, bd_s]
          · have e : (10 : Int32) ≤ J (a + 1 + (10 - (a + 1))) := by rw [show (10 : Int32) = J 10 from rfl, J_le (by omega) (by omega)]; omega
            simp only [e, ↓reduceIte]
          · rw [mnK_0]; rfl
        · rintro r rfl
          rw [if_pos (J_ix hk10 (by omega)), nm_s, J_nat (by omega)]
          refine ok_some (ih _ ⟨hf.put (by simp) _ _, fun c' s hs he hsub => ?_⟩)
          rw [su_e, upd_a]
          by_cases e : s = k + 1
          · rw [if_pos e, e]
            have e2 := he.2.1
            have e3 := hE.2.1
            rw [e] at e2
            rw [show c' = c + 1 from by omega]
          · rw [if_neg e]; exact hT c' s (by omega) he hsub
    · rw [if_neg q, bd_s]
      refine ih x ⟨hf, fun c s hs he hsub => ?_⟩
      by_cases e : s = k + 1
      · exfalso; rw [e] at hsub; exact q hsub
      · exact hT c s (by omega) he hsub
  · rintro rc x hx
    simp (disch := omega) only [J_lt, show S < S + 1 from by omega, ↓reduceIte]
    exact ok_some hx
  · intro c s hs he hsub
    have h0 : s = 0 := by omega
    have hp := he.2.1
    rw [h0, show popN 0 10 = 0 from by decide] at hp
    rw [h0, show c = 0 from by omega, su_e, upd_e]; unfold Mf; rfl
-- the partner
def ptP (w : Nat → Int32) (c s i : Nat) : Bool := s.testBit (lowN s + 1 + i) && decide (dfN w (lowN s) (lowN s + 1 + i) + Mf w c (clr (clr s (lowN s)) (lowN s + 1 + i)) = Mf w (c + 1) s)
def ptN (w : Nat → Int32) (c s : Nat) : Nat := fstN (ptP w c s) (10 - (lowN s + 1))
theorem fst_ex {P : Nat → Bool} {N i : Nat} (hi : i < N) (h : P i = true) : fstN P N < N ∧ P (fstN P N) = true := by
  induction N with
  | zero => omega
  | succ N ih =>
    rw [fstN_succ]
    by_cases q : fstN P N < N
    · rw [if_pos q]
      refine ⟨by omega, ?_⟩
      by_cases hiN : i < N
      · exact (ih hiN).2
      · -- the first one found lies before
        have key : ∀ M, fstN P M < M → P (fstN P M) = true := by
          intro M
          induction M with
          | zero => intro h; omega
          | succ M ihM =>
            intro h
            rw [fstN_succ] at h ⊢
            by_cases q : fstN P M < M
            · rw [if_pos q] at h ⊢; exact ihM q
            · rw [if_neg q] at h ⊢
              by_cases q2 : P M = true
              · rw [if_pos q2] at h ⊢; exact q2
              · rw [if_neg q2] at h; omega
        exact key N q
    · rw [if_neg q]
      by_cases hiN : i < N
      · exact absurd (ih hiN).1 q
      · have : i = N := by omega
        rw [this] at h
        rw [if_pos h]; exact ⟨by omega, h⟩
theorem pt_ex {w : Nat → Int32} (hI : WInv w) {c s : Nat} (h : EV2 (nP w) (c + 1) s) (hc : c ≤ 8) : ptN w c s < 10 - (lowN s + 1) ∧ ptP w c s (ptN w c s) = true := by
  have hM := Mf_le hI (c + 1) s h
  rcases mnK_at w c s (10 - (lowN s + 1)) with q | ⟨i, h1, h2, h3⟩
  · rw [Mf_succ] at hM; omega
  · exact fst_ex h1 (by unfold ptP; rw [h2, Mf_succ, h3]; simp)
end PMATCH2
