section PCALL9
section
variable {v0 v1 v3 v4 v5 v6 v7 v10 v12 v13 v14 v15 : St} {v16 v17 : Nat → St} {V : St}
theorem rView {n : Nat} (hn : 5000 < n) (h : RI v0 v1 v3 v4 v5 v6 v7 v10 v12 v13 v14 v15 v16 v17 V) : ∃ r V', m_X11_view n v0 v5 = some r ∧ m_X12_view n V = some (r, V') ∧ RI v0 v1 v3 v4 v5 v6 v7 v10 v12 v13 v14 v15 v16 v17 V' := ⟨_, _, viewX hn h.hr, viewR hn h.hr.1, h.sq (fr0 _ _)⟩
theorem rWell {n : Nat} (hn : 5000 < n) (h : RI v0 v1 v3 v4 v5 v6 v7 v10 v12 v13 v14 v15 v16 v17 V) : ∃ r V', m_X11_well n v0 v5 = some r ∧ m_X12_well n V = some (r, V') ∧ RI v0 v1 v3 v4 v5 v6 v7 v10 v12 v13 v14 v15 v16 v17 V' := ⟨_, _, wellX hn h.hr, wellR hn h.hr.1, h.sq (fr0 _ _)⟩
theorem rTwins {n : Nat} (hn : 5000 < n) (h : RI v0 v1 v3 v4 v5 v6 v7 v10 v12 v13 v14 v15 v16 v17 V) : ∃ r V', m_X11_twins n v0 v5 = some r ∧ m_X12_twins n V = some (r, V') ∧ RI v0 v1 v3 v4 v5 v6 v7 v10 v12 v13 v14 v15 v16 v17 V' := ⟨_, _, twinsX hn h.hr, by rw [twinsR hn h.hr.1, pairs_eq _ (twC_sym _)], h.sq (fr0 _ _)⟩
theorem rAlike {n : Nat} (hn : 5000 < n) (h : RI v0 v1 v3 v4 v5 v6 v7 v10 v12 v13 v14 v15 v16 v17 V) : ∃ r V', m_X11_alike n v0 v5 = some r ∧ m_X12_alike n V = some (r, V') ∧ RI v0 v1 v3 v4 v5 v6 v7 v10 v12 v13 v14 v15 v16 v17 V' := ⟨_, _, alikeX hn h.hr, by rw [alikeR hn h.hr.1, pairs_eq _ (alC_sym _)], h.sq (fr0 _ _)⟩
theorem rRich {n : Nat} (hn : 5000 < n) (h : RI v0 v1 v3 v4 v5 v6 v7 v10 v12 v13 v14 v15 v16 v17 V) : ∃ r V', m_X11_rich n v0 v5 = some r ∧ m_X12_rich n V = some (r, V') ∧ RI v0 v1 v3 v4 v5 v6 v7 v10 v12 v13 v14 v15 v16 v17 V' := ⟨_, _, richX hn h.hr, richR hn h.hr.1, h.sq (fr0 _ _)⟩
theorem rHeav {n : Nat} (hn : 5000 < n) (h : RI v0 v1 v3 v4 v5 v6 v7 v10 v12 v13 v14 v15 v16 v17 V) : ∃ r V', m_X11_heaviest n v0 v5 = some r ∧ m_X12_heaviest n V = some (r, V') ∧ RI v0 v1 v3 v4 v5 v6 v7 v10 v12 v13 v14 v15 v16 v17 V' := ⟨_, _, heavX hn h.hr, heavR hn h.hr.1, h.sq (fr0 _ _)⟩
theorem rCount {n : Nat} (hn : 5000 < n) (h : RI v0 v1 v3 v4 v5 v6 v7 v10 v12 v13 v14 v15 v16 v17 V) (x : Int32) : ∃ r V', m_X11_count n v0 v5 v6 v7 v12 x = some r ∧ m_X12_count n V x = some (r, V') ∧ RI v0 v1 v3 v4 v5 v6 v7 v10 v12 v13 v14 v15 v16 v17 V' := by
  have hI := h.hr.1
  have hB := h.hr.2.1
  have hu : WInv ((su V 0 0 0) 1) := by rw [su01]; exact hI
  suffices hh : ∃ r, m_X11_count n v0 v5 v6 v7 v12 x = some r ∧ m_X12_count n V x = some (r, su V 0 0 0) by
    obtain ⟨r, e1, e2⟩ := hh
    exact ⟨r, _, e1, e2, h.sq (fr0 _ _)⟩
  have e7 : su V 0 0 0 7 = V 7 := su_n _ _ _ _ (by decide)
  unfold m_X11_count m_X12_count
  rw [nm_s, XbrokenPlanks hn hI hB, XgoneThings hn hI hB, XpurseSum hn hI hB, brokenR hn hu, goneR hn hu, pursesR hn hu, bd_s, bd_s, bd_s, bd_s, bd_s, bd_s, su01, e7]
  by_cases hx : 0 ≤ x ∧ x ≤ 14
  · obtain ⟨j, hj, rfl⟩ := sm3 (k := 14) (by omega) hx
    obtain ⟨k, -, t1, t2⟩ := h.tx
    obtain ⟨s, f, -, -, p0, -, p7, -⟩ := h.pr
    obtain ⟨r, -, d0, w0, -⟩ := h.dr
    have hin : ∀ k : Nat, k ≤ 9 → m_X12_in n (J k) 0 9 = some 1 := fun k hk => by
      rw [in_s, show b2i (0 ≤ J k ∧ J k ≤ 9) = 1 from if_pos ⟨by rw [show (0 : Int32) = J 0 from rfl, J_le (by omega) (by omega)]; omega, by rw [show (9 : Int32) = J 9 from rfl, J_le (by omega) (by omega)]; omega⟩]
    rcases (by omega : j = 0 ∨ j = 1 ∨ j = 2 ∨ j = 3 ∨ j = 4 ∨ j = 5 ∨ j = 6 ∨ j = 7 ∨ j = 8 ∨ j = 9 ∨ j = 10 ∨ j = 11 ∨ j = 12 ∨ j = 13 ∨ j = 14) with rfl | rfl | rfl | rfl | rfl | rfl | rfl | rfl | rfl | rfl | rfl | rfl | rfl | rfl | rfl
    · exact ⟨V 1 0, by rw [hB.p]; rfl, by rw [hin 0 (by omega)]; rfl⟩
    · exact ⟨V 1 1, by rw [hB.t]; rfl, by rw [hin 1 (by omega)]; rfl⟩
    · exact ⟨V 1 2, by rw [t1, t2]; rfl, by rw [hin 2 (by omega)]; rfl⟩
    · rcases h.lr with ⟨l3, l0⟩ | ⟨l3, lw, l0, -⟩
      · exact ⟨-1, by rw [l0]; rfl, by rw [l3]; rfl⟩
      · exact ⟨V 1 382, by rw [l0, lw.1]; rfl, by rw [l3]; rfl⟩
    · exact ⟨V 1 4, by rw [hB.week]; rfl, by rw [hin 4 (by omega)]; rfl⟩
    · exact ⟨V 1 5, by rw [hB.snow]; rfl, by rw [hin 5 (by omega)]; rfl⟩
    · exact ⟨V 1 6, by rw [hB.step]; rfl, by rw [hin 6 (by omega)]; rfl⟩
    · exact ⟨V 1 7, by rw [hB.fall]; rfl, by rw [hin 7 (by omega)]; rfl⟩
    · exact ⟨V 1 8, by rw [hB.thieves]; rfl, by rw [hin 8 (by omega)]; rfl⟩
    · exact ⟨V 1 9, by rw [hB.fee]; rfl, by rw [hin 9 (by omega)]; rfl⟩
    · exact ⟨brS (V 1), rfl, rfl⟩
    · exact ⟨inS (V 1) (-1), rfl, rfl⟩
    · exact ⟨puS (V 1), rfl, rfl⟩
    · exact ⟨J r, by rw [d0]; rfl, by rw [w0]; rfl⟩
    · exact ⟨J s, by rw [p0]; rfl, by rw [p7]; rfl⟩
  · have ne : ∀ k : Nat, k ≤ 14 → ¬ x = J k := fun k hk g => hx (by
      rw [g]
      exact ⟨by rw [show (0 : Int32) = J 0 from rfl, J_le (by omega) (by omega)]; omega, by rw [show (14 : Int32) = J 14 from rfl, J_le (by omega) (by omega)]; omega⟩)
    have n9 : ¬ (0 ≤ x ∧ x ≤ 9) := fun g => hx ⟨g.1, by have := g.2; grind⟩
    refine ⟨-1, ?_, ?_⟩
    · rw [if_neg (show ¬ x = 0 from ne 0 (by omega)), if_neg (show ¬ x = 1 from ne 1 (by omega)), if_neg (show ¬ x = 2 from ne 2 (by omega)), if_neg (show ¬ x = 3 from ne 3 (by omega)), if_neg (show ¬ x = 4 from ne 4 (by omega)), if_neg (show ¬ x = 5 from ne 5 (by omega)), if_neg (show ¬ x = 6 from ne 6 (by omega)), if_neg (show ¬ x = 7 from ne 7 (by omega)), if_neg (show ¬ x = 8 from ne 8 (by omega)), if_neg (show ¬ x = 9 from ne 9 (by omega)), if_neg (show ¬ x = 10 from ne 10 (by omega)), if_neg (show ¬ x = 11 from ne 11 (by omega)), if_neg (show ¬ x = 12 from ne 12 (by omega)), if_neg (show ¬ x = 13 from ne 13 (by omega)), if_neg (show ¬ x = 14 from ne 14 (by omega))]
    · rw [if_neg (show ¬ x = 3 from ne 3 (by omega)), if_neg (show ¬ x = 4 from ne 4 (by omega)), if_neg (show ¬ x = 5 from ne 5 (by omega)), if_neg (show ¬ x = 6 from ne 6 (by omega)), if_neg (show ¬ x = 7 from ne 7 (by omega)), if_neg (show ¬ x = 8 from ne 8 (by omega)), if_neg (show ¬ x = 9 from ne 9 (by omega)), if_neg (show ¬ x = 10 from ne 10 (by omega)), if_neg (show ¬ x = 11 from ne 11 (by omega)), if_neg (show ¬ x = 12 from ne 12 (by omega)), if_neg (show ¬ x = 13 from ne 13 (by omega)), if_neg (show ¬ x = 14 from ne 14 (by omega)), in_s, bd_s, if_pos (show b2i (0 ≤ x ∧ x ≤ 9) = 0 from if_neg n9)]
end
theorem J_sur (x : Int32) : ∃ b, x = J b := ⟨x.toBitVec.toNat, by
  apply Int32.toBitVec_inj.mp
  simp [J]⟩
/-- the texts' count alone changed -/
theorem HR.txt {v : St} {w : Nat → Int32} (hR : HR v w) (x : Int32) : HR v (upd w 2 x) := by
  have hI := hR.1
  have hB := hR.2.1
  have h5 := hI.p5
  have h10 := hI.t10
  have e : ∀ k, k ≠ 2 → upd w 2 x k = w k := fun k a => upd_n _ _ _ a
  have eP : nP (upd w 2 x) = nP w := by unfold nP; rw [e 0 (by omega)]
  have eT : nT (upd w 2 x) = nT w := by unfold nT; rw [e 1 (by omega)]
  refine ⟨?_, ?_, HW.ag h10 hR.2.2 (fun p hp => ⟨fun k a b => e k b, fun k a b => e k (by omega), fun k a b => e k (by omega), fun k a => e _ (by omega), e _ (by omega), e _ (by omega)⟩) eP⟩
  · unfold WInv
    rw [eP, eT, e 0 (by omega), e 1 (by omega), e 6 (by omega), e 5 (by omega)]
    refine ⟨hI.1, hI.2.1, hI.2.2.1, hI.2.2.2.1, fun p hp => ?_, fun q hq => ?_, fun t ht => ?_⟩
    · rw [e _ (by omega), e _ (by omega), e _ (by omega), e _ (by omega)]; exact hI.pl hp
    · rw [e _ (by omega)]; exact hI.ho hq
    · rw [e _ (by omega), e _ (by omega), e _ (by omega)]; exact hI.th ht
  · unfold HB
    rw [eP, eT, e 0 (by omega), e 1 (by omega), e 5 (by omega), e 6 (by omega), e 7 (by omega), e 8 (by omega), e 9 (by omega), e 4 (by omega), e 11 (by omega)]
    refine ⟨hB.p, hB.t, hB.snow, hB.step, hB.fall, hB.thieves, hB.fee, hB.week, hB.seed, fun p hp => ?_, fun q hq => ?_, fun t ht => ?_⟩
    · rw [e _ (by omega), e _ (by omega), e _ (by omega), e _ (by omega)]; exact ⟨hB.bears hp, hB.age hp, hB.prop hp, hB.broken hp⟩
    · rw [e _ (by omega), e _ (by omega)]; exact ⟨hB.purse hq, hB.guests hq⟩
    · rw [e _ (by omega), e _ (by omega), e _ (by omega)]; exact ⟨hB.weight ht, hB.worth ht, hB.home ht⟩
end PCALL9
