section PLAWR5
/-- the row of the law as it is read, at the place where it will lie -/
def sh (V : St) : Nat → Int32 := fun k => V 1 (k + 849)
theorem sh_gd (V : St) : lg (sh V) = gd V := by
  funext i; unfold lg sh gd; rw [show 431 + 2 * i + 849 = 1280 + 2 * i from by omega]
def KL (L V : St) (ln s : Nat) : Prop := LD L V s ∧ L 0 0 = J ln ∧ frS (sh V) ln = s ∧ ∀ l, l < ln → LL (sh V) l ∧ lf (sh V) l = frS (sh V) l ∧ (sh V (383 + 4 * l) = 0 ∨ sh V (383 + 4 * l) = 1 ∨ sh V (383 + 4 * l) = 2) ∧ L 1 l = kindC (sh V (383 + 4 * l)) ∧ L 2 l = sh V (384 + 4 * l) ∧ L 3 l = J (lt (sh V) l) ∧ lt (sh V) l ≤ s
theorem LL.eq2 {w w' : Nat → Int32} {l s : Nat} (h : LL w l) (hs : lt w l ≤ s) (h1 : ∀ k, 383 + 4 * l ≤ k → k < 387 + 4 * l → w' k = w k) (h2 : ∀ k, 431 ≤ k → k < 431 + 2 * s → w' k = w k) : LL w' l ∧ lf w' l = lf w l ∧ lt w' l = lt w l := by
  have e1 : lf w' l = lf w l := by unfold lf; rw [h1 _ (by omega) (by omega)]
  have e2 : lt w' l = lt w l := by unfold lt; rw [h1 _ (by omega) (by omega)]
  have eg : ∀ i, i < s → lg w' i = lg w i := fun i hi => by unfold lg; rw [h2 _ (by omega) (by omega)]
  have ea : ∀ i, i < s → la w' i = la w i := fun i hi => by unfold la; rw [h2 _ (by omega) (by omega)]
  refine ⟨?_, e1, e2⟩
  obtain ⟨a1, a2, a3, a4, a5, a6, a7⟩ := h
  unfold LL
  rw [e1, e2, h1 (385 + 4 * l) (by omega) (by omega), h1 (386 + 4 * l) (by omega) (by omega), h1 (384 + 4 * l) (by omega) (by omega)]
  refine ⟨a1, a2, a3, a4, a5, ?_, fun i hi hi2 => ?_⟩
  · rw [tyR_congr _ _ _ (fun k k1 k2 => eg k (by omega))]; exact a6
  · rw [h2 _ (by omega) (by omega), eg i (by omega), ea i (by omega)]; exact a7 i hi hi2
theorem frS_eq2 {w w' : Nat → Int32} : ∀ {l : Nat}, (∀ j, j < l → lt w' j = lt w j) → frS w' l = frS w l
  | 0, _ => rfl
  | l + 1, h => h l (by omega)
/-- one more line -/
theorem KL.add {L V L6 V6 : St} {ln s s' : Nat} (h : KL L V ln s) (hln : ln < 12) (hss : s ≤ s') (hs4 : s' ≤ 400)
    (hv : ∀ k, k < 1232 + 4 * ln → V6 1 k = V 1 k) (hv2 : ∀ k, 1280 ≤ k → k < 1280 + 2 * s → V6 1 k = V 1 k)
    {k a : Int32} (hk : k = 0 ∨ k = 1 ∨ k = 2) (ha : inB a 0 60)
    (c0 : V6 1 (1232 + 4 * ln) = k) (c1 : V6 1 (1233 + 4 * ln) = a) (c2 : V6 1 (1234 + 4 * ln) = J s) (c3 : V6 1 (1235 + 4 * ln) = J s')
    (hD : LD L6 V6 s') (hty : tyR (gd V6) s (s' - s) [] = some [] ∨ tyR (gd V6) s (s' - s) [] = some [true])
    (l0 : L6 0 0 = J (ln + 1)) (l1 : ∀ l, L6 1 l = if l = ln then kindC k else L 1 l) (l2 : ∀ l, L6 2 l = if l = ln then a else L 2 l) (l3 : ∀ l, L6 3 l = if l = ln then J s' else L 3 l) : KL L6 V6 (ln + 1) s' := by
  obtain ⟨h1, h2, h3, h4⟩ := h
  have hw : ∀ k, 383 ≤ k → k < 383 + 4 * ln → sh V6 k = sh V k := fun k k1 k2 => hv _ (by omega)
  have hw2 : ∀ k, 431 ≤ k → k < 431 + 2 * s → sh V6 k = sh V k := fun k k1 k2 => hv2 _ (by omega) (by omega)
  have elt : ∀ l, l < ln → lt (sh V6) l = lt (sh V) l := fun l hl => by unfold lt; rw [hw _ (by omega) (by omega)]
  have d0 : sh V6 (383 + 4 * ln) = k := by show V6 1 (383 + 4 * ln + 849) = k; rw [show 383 + 4 * ln + 849 = 1232 + 4 * ln from by omega]; exact c0
  have d1 : sh V6 (384 + 4 * ln) = a := by show V6 1 (384 + 4 * ln + 849) = a; rw [show 384 + 4 * ln + 849 = 1233 + 4 * ln from by omega]; exact c1
  have d2 : sh V6 (385 + 4 * ln) = J s := by show V6 1 (385 + 4 * ln + 849) = J s; rw [show 385 + 4 * ln + 849 = 1234 + 4 * ln from by omega]; exact c2
  have d3 : sh V6 (386 + 4 * ln) = J s' := by show V6 1 (386 + 4 * ln + 849) = J s'; rw [show 386 + 4 * ln + 849 = 1235 + 4 * ln from by omega]; exact c3
  have ef : lf (sh V6) ln = s := by unfold lf; rw [d2, J_nat (by omega)]
  have et : lt (sh V6) ln = s' := by unfold lt; rw [d3, J_nat (by omega)]
  have efr : frS (sh V6) ln = s := by rw [frS_eq2 elt]; exact h3
  refine ⟨hD, l0, et, fun l hl => ?_⟩
  by_cases q : l = ln
  · subst q
    rw [l1, l2, l3, if_pos rfl, if_pos rfl, if_pos rfl, ef, et, d0, d1, efr]
    refine ⟨?_, rfl, hk, rfl, rfl, rfl, Nat.le_refl _⟩
    unfold LL
    rw [ef, et, d1, d2, d3, sh_gd]
    refine ⟨rfl, rfl, hss, hs4, ha, hty, fun i i1 i2 => ?_⟩
    obtain ⟨o, o1, o2, o3, -⟩ := hD.2.2 i i2
    have e1 : sh V6 (431 + 2 * i) = J o := by show V6 1 (431 + 2 * i + 849) = J o; rw [show 431 + 2 * i + 849 = 1280 + 2 * i from by omega]; exact o1
    have e2 : la (sh V6) i = V6 1 (1281 + 2 * i) := by show V6 1 (432 + 2 * i + 849) = _; rw [show 432 + 2 * i + 849 = 1281 + 2 * i from by omega]
    have e3 : gd V6 i = o := by unfold gd; rw [o1, J_nat (by omega)]
    rw [e1, e2, e3]
    exact ⟨rfl, o2, o3⟩
  · have hl' : l < ln := by omega
    obtain ⟨b1, b2, b3, b4, b5, b6, b7⟩ := h4 l hl'
    obtain ⟨g1, g2, g3⟩ := b1.eq2 b7 (w' := sh V6) (fun k k1 k2 => hw k (by omega) (by omega)) hw2
    rw [l1, l2, l3, if_neg q, if_neg q, if_neg q, g2, g3, frS_eq2 (fun j hj => elt j (by omega)), hw (383 + 4 * l) (by omega) (by omega), hw (384 + 4 * l) (by omega) (by omega)]
    exact ⟨g1, b2, b3, b4, b5, b6, by omega⟩
def adL (L : St) (ln s : Nat) (kc a : Int32) : St := su (su (su (su L 1 ln kc) 2 ln a) 3 ln (J s)) 0 0 (J (ln + 1))
theorem addLX (n : Nat) {L : St} {ln s : Nat} (hln : ln < 12) (h0 : L 0 0 = J ln) (h5 : L 5 0 = J s) (kc a : Int32) : m_X5_addLine n L kc a = some (adL L ln s kc a) := by
  unfold m_X5_addLine adL
  have e1 : su L 1 ln kc 0 0 = J ln := by rw [su_n _ _ _ _ (by decide)]; exact h0
  have e2 : su (su L 1 ln kc) 2 ln a 0 0 = J ln := by rw [su_n _ _ _ _ (by decide)]; exact e1
  have e3 : su (su (su L 1 ln kc) 2 ln a) 3 ln (J s) 0 0 = J ln := by rw [su_n _ _ _ _ (by decide)]; exact e2
  have e4 : su (su L 1 ln kc) 2 ln a 5 0 = J s := by rw [su_n _ _ _ _ (by decide), su_n _ _ _ _ (by decide)]; exact h5
  have g1 : ¬ J ln < 0 := J_nn (by omega)
  have g2 : ¬ (12 : Int32) ≤ J ln := by rw [show (12 : Int32) = J 12 from rfl, J_le (by omega) (by omega)]; omega
  simp (disch := omega) only [h0, g1, g2, ↓reduceIte, ix_J, J_nat, nm_s, e1, e2, e3, e4, J_succ ln]
theorem adL_1 (L : St) (ln s : Nat) (kc a : Int32) : (adL L ln s kc a) 0 0 = J (ln + 1) ∧ (∀ l, adL L ln s kc a 1 l = if l = ln then kc else L 1 l) ∧ (∀ l, adL L ln s kc a 2 l = if l = ln then a else L 2 l) ∧ (∀ l, adL L ln s kc a 3 l = if l = ln then J s else L 3 l) ∧ adL L ln s kc a 4 = L 4 ∧ adL L ln s kc a 5 = L 5 ∧ Fr [0, 1, 2, 3] L (adL L ln s kc a) := by
  unfold adL
  refine ⟨by rw [su_e, upd_e], fun l => ?_, fun l => ?_, fun l => ?_, ?_, ?_, ?_⟩
  · rw [su_n _ _ _ _ (by decide), su_n _ _ _ _ (by decide), su_n _ _ _ _ (by decide), su_e]; rfl
  · rw [su_n _ _ _ _ (by decide), su_n _ _ _ _ (by decide), su_e, su_n _ _ _ _ (by decide)]; rfl
  · rw [su_n _ _ _ _ (by decide), su_e, su_n _ _ _ _ (by decide), su_n _ _ _ _ (by decide)]; rfl
  · rw [su_n _ _ _ _ (by decide), su_n _ _ _ _ (by decide), su_n _ _ _ _ (by decide), su_n _ _ _ _ (by decide)]
  · rw [su_n _ _ _ _ (by decide), su_n _ _ _ _ (by decide), su_n _ _ _ _ (by decide), su_n _ _ _ _ (by decide)]
  · exact ((((Fr.rfl _ _).put (by simp) _ _).put (by simp) _ _).put (by simp) _ _).put (by simp) _ _
/-- what reading a line of a law gives -/
def QL (R V L : St) (len N t ln : Nat) (a : Int32 × St × St) (c : Int32 × St) : Prop :=
  (∃ t' p' b' V' L' s', a = (1, RT R t', L') ∧ c = (1, PB V' p' b') ∧ t' ≤ N ∧ t < t' ∧ JC V len p' t' ∧ Fr [1, 13, 16] V V' ∧ (∀ k, k < 1232 → V' 1 k = V 1 k) ∧ KL L' V' (ln + 1) s' ∧ s' ≤ t') ∨
  (∃ t' p' V' L', a = (0, RT R t', L') ∧ c = (0, PB V' p' (st (V 8) len t')) ∧ t' ≤ N ∧ Fr [1, 13, 16] V V' ∧ (∀ k, k < 1232 → V' 1 k = V 1 k))
theorem LD.low {L V V' : St} {s : Nat} (h : LD L V s) (h16 : V' 16 = V 16) (h1 : ∀ k, 1280 ≤ k → V' 1 k = V 1 k) : LD L V' s := by
  refine ⟨h.1, by rw [h16]; exact h.2.1, fun i hi => ?_⟩
  rw [h1 _ (by omega), h1 _ (by omega)]; exact h.2.2 i hi
theorem lawAt (ln : Nat) : 1232 + 4 * J ln = J (1232 + 4 * ln) ∧ J (1232 + 4 * ln) + 1 = J (1233 + 4 * ln) ∧ J (1232 + 4 * ln) + 2 = J (1234 + 4 * ln) ∧ J (1232 + 4 * ln) + 3 = J (1235 + 4 * ln) := by
  refine ⟨?_, ?_, ?_, ?_⟩
  · rw [show (1232 : Int32) = J 1232 from rfl, show (4 : Int32) = J 4 from rfl, J_mul, J_add]
  · rw [show (1 : Int32) = J 1 from rfl, J_add]; congr 1; omega
  · rw [show (2 : Int32) = J 2 from rfl, J_add]; congr 1; omega
  · rw [show (3 : Int32) = J 3 from rfl, J_add]; congr 1; omega
end PLAWR5
