section PKEEP
def cpN (s d : Nat → Int32) (k : Nat) : Nat → Int32 := fun j => if j < k then s j else d j
theorem cpN_0 (s d : Nat → Int32) : cpN s d 0 = d := by funext j; unfold cpN; rw [if_neg (by omega)]
theorem cpN_succ (s d : Nat → Int32) (k : Nat) : upd (cpN s d k) k (s k) = cpN s d (k + 1) := by
  funext j; rw [upd_a]; unfold cpN
  by_cases e : j = k
  · subst e; rw [if_pos rfl, if_pos (by omega)]
  · rw [if_neg e]
    by_cases q : j < k
    · rw [if_pos q, if_pos (by omega)]
    · rw [if_neg q, if_neg (by omega)]
theorem keepR {n : Nat} (hn : 5000 < n) (V : St) : m_X12_keepsAll n V = some (sA V 4 (cpN (V 1) (V 4) 382)) := by
  unfold m_X12_keepsAll
  refine lp_seq (fun k => (J k, sA V 4 (cpN (V 1) (V 4) k))) 382 (fun rc k hk => ?_) (fun rc => ?_) (by omega) ?_
  · have e : ¬ (382 : Int32) ≤ J k := by rw [show (382 : Int32) = J 382 from rfl, J_le (by omega) (by omega)]; omega
    simp (disch := omega) only [e, ↓reduceIte, ix_J, J_nat, nm_s, J_succ]
    rw [su_sA, sA_n _ _ _ (by decide), cpN_succ]
  · have e : (382 : Int32) ≤ J 382 := by decide
    simp only [e, ↓reduceIte]
  · rw [cpN_0, sA_id]; rfl
theorem backR {n : Nat} (hn : 5000 < n) (V : St) : m_X12_bringsBack n V = some (sA V 1 (cpN (V 4) (V 1) 382)) := by
  unfold m_X12_bringsBack
  refine lp_seq (fun k => (J k, sA V 1 (cpN (V 4) (V 1) k))) 382 (fun rc k hk => ?_) (fun rc => ?_) (by omega) ?_
  · have e : ¬ (382 : Int32) ≤ J k := by rw [show (382 : Int32) = J 382 from rfl, J_le (by omega) (by omega)]; omega
    simp (disch := omega) only [e, ↓reduceIte, ix_J, J_nat, nm_s, J_succ]
    rw [su_sA, sA_n _ _ _ (by decide), cpN_succ]
  · have e : (382 : Int32) ≤ J 382 := by decide
    simp only [e, ↓reduceIte]
  · rw [cpN_0, sA_id]; rfl
/-- kept, changed, brought back: as it was -/
theorem keep_back {V U : St} (hf : Fr [1, 17] (sA V 4 (cpN (V 1) (V 4) 382)) U) (h1 : ∀ k, 382 ≤ k → U 1 k = V 1 k) : Fr [4, 17] V (sA U 1 (cpN (U 4) (U 1) 382)) := by
  intro f hf'
  simp only [List.mem_cons, List.not_mem_nil, or_false, not_or] at hf'
  by_cases e1 : f = 1
  · subst e1
    rw [sA_e]
    funext k
    unfold cpN
    by_cases q : k < 382
    · rw [if_pos q, hf 4 (by simp), sA_e]; unfold cpN; rw [if_pos q]
    · rw [if_neg q]; exact h1 k (by omega)
  · rw [sA_n _ _ _ e1, hf f (by simp; exact ⟨e1, hf'.2⟩), sA_n _ _ _ hf'.1]
theorem keep_1 (V : St) : sA V 4 (cpN (V 1) (V 4) 382) 1 = V 1 := sA_n _ _ _ (by decide)
-- the image
theorem imageR {n : Nat} (hn : 5000 < n) (V : St) : m_X12_image n V = some (su (sA (su V 0 0 0) 2 (cpN (V 1) (V 2) 1231)) 6 0 1) := by
  unfold m_X12_image
  rw [nm_s]
  have e1 : su V 0 0 0 1 = V 1 := su01 V 0
  have e2 : su V 0 0 0 2 = V 2 := su_n _ _ _ _ (by decide)
  rw [← e1, ← e2]
  generalize su V 0 0 0 = U
  refine (congrArg (fun x => bd x _) (lp_seq (r := sA U 2 (cpN (U 1) (U 2) 1231)) (fun k => (J k, sA U 2 (cpN (U 1) (U 2) k))) 1231 (fun rc k hk => ?_) (fun rc => ?_) (by omega) ?_)).trans ?_
  · have e : ¬ (1231 : Int32) ≤ J k := by rw [show (1231 : Int32) = J 1231 from rfl, J_le (by omega) (by omega)]; omega
    simp (disch := omega) only [e, ↓reduceIte, ix_J, J_nat, nm_s, J_succ]
    rw [su_sA, sA_n _ _ _ (by decide), cpN_succ]
  · have e : (1231 : Int32) ≤ J 1231 := by decide
    simp only [e, ↓reduceIte]
  · rw [cpN_0, sA_id]; rfl
  · rw [bd_s, nm_s]
theorem backkR {n : Nat} (hn : 5000 < n) (V : St) : m_X12_back n V = if V 6 0 = 0 then some (0, su V 0 0 0) else some (1, su (sA (su V 0 0 0) 1 (cpN (V 2) (V 1) 1231)) 7 0 0) := by
  unfold m_X12_back
  rw [nm_s]
  have e1 : su V 0 0 0 1 = V 1 := su01 V 0
  have e2 : su V 0 0 0 2 = V 2 := su_n _ _ _ _ (by decide)
  have e6 : su V 0 0 0 6 = V 6 := su_n _ _ _ _ (by decide)
  rw [← e1, ← e2, ← e6]
  generalize su V 0 0 0 = U
  by_cases h : U 6 0 = 0
  · rw [if_pos h, if_pos h]
  · rw [if_neg h, if_neg h]
    refine (congrArg (fun x => bd x _) (lp_seq (r := sA U 1 (cpN (U 2) (U 1) 1231)) (fun k => (J k, sA U 1 (cpN (U 2) (U 1) k))) 1231 (fun rc k hk => ?_) (fun rc => ?_) (by omega) ?_)).trans ?_
    · have e : ¬ (1231 : Int32) ≤ J k := by rw [show (1231 : Int32) = J 1231 from rfl, J_le (by omega) (by omega)]; omega
      simp (disch := omega) only [e, ↓reduceIte, ix_J, J_nat, nm_s, J_succ]
      rw [su_sA, sA_n _ _ _ (by decide), cpN_succ]
    · have e : (1231 : Int32) ≤ J 1231 := by decide
      simp only [e, ↓reduceIte]
    · rw [cpN_0, sA_id]; rfl
    · rw [bd_s, nm_s]
-- remembers, undo
def remW (a w : Nat → Int32) (s : Nat) : Nat → Int32 := fun j => if 382 * s ≤ j ∧ j < 382 * s + 382 then w (j - 382 * s) else a j
def shA (a : Nat → Int32) (k : Nat) : Nat → Int32 := fun j => if j < k then a (j + 382) else a j
theorem shA_succ (a : Nat → Int32) (k : Nat) : upd (shA a k) k (shA a k (k + 382)) = shA a (k + 1) := by
  funext j; rw [upd_a]; unfold shA
  by_cases e : j = k
  · subst e; rw [if_pos rfl, if_neg (by omega), if_pos (by omega)]
  · rw [if_neg e]
    by_cases q : j < k
    · rw [if_pos q, if_pos (by omega)]
    · rw [if_neg q, if_neg (by omega)]
def rmN (a w : Nat → Int32) (s k : Nat) : Nat → Int32 := fun j => if 382 * s ≤ j ∧ j < 382 * s + k then w (j - 382 * s) else a j
theorem rmN_succ (a w : Nat → Int32) (s k : Nat) : upd (rmN a w s k) (382 * s + k) (w k) = rmN a w s (k + 1) := by
  funext j; rw [upd_a]; unfold rmN
  by_cases e : j = 382 * s + k
  · subst e; rw [if_pos rfl, if_pos (by omega)]; congr 1; omega
  · rw [if_neg e]
    by_cases q : 382 * s ≤ j ∧ j < 382 * s + k
    · rw [if_pos q, if_pos (by omega)]
    · rw [if_neg q, if_neg (by omega)]
theorem remR1 {n : Nat} (hn : 5000 < n) (V : St) {s : Nat} (hs : s < 12) (h7 : V 7 0 = J (s + 1)) : lp (fun (rc2 : Int32 × St → Option (St)) (x2l : Int32 × St) =>
(if 382 ≤ x2l.1 then
some x2l.2
else
(if ix x2l.1 2080 then (if ix ((382 * ((x2l.2 7 0) - 1)) + x2l.1) 4584 then nm (su x2l.2 5 (((382 * ((x2l.2 7 0) - 1)) + x2l.1)).toNatClampNeg (x2l.2 1 (x2l.1).toNatClampNeg)) (fun u5 =>
rc2 ((x2l.1 + 1), u5)) else none) else none))) n (0, V) = some (sA V 5 (rmN (V 5) (V 1) s 382)) := by
  refine lp_seq (fun k => (J k, sA V 5 (rmN (V 5) (V 1) s k))) 382 (fun rc k hk => ?_) (fun rc => ?_) (by omega) ?_
  · have e : ¬ (382 : Int32) ≤ J k := by rw [show (382 : Int32) = J 382 from rfl, J_le (by omega) (by omega)]; omega
    have e7 : sA V 5 (rmN (V 5) (V 1) s k) 7 0 = J (s + 1) := by rw [sA_n _ _ _ (by decide)]; exact h7
    have e1 : sA V 5 (rmN (V 5) (V 1) s k) 1 k = V 1 k := by rw [sA_n _ _ _ (by decide)]
    have ea : 382 * (J (s + 1) - 1) + J k = J (382 * s + k) := by rw [J_pred (by omega), show (382 : Int32) = J 382 from rfl, J_mul, J_add]; congr 2
    simp (disch := omega) only [e, e7, e1, ea, ↓reduceIte, ix_J, J_nat, nm_s, J_succ]
    rw [su_sA, rmN_succ]
  · have e : (382 : Int32) ≤ J 382 := by decide
    simp only [e, ↓reduceIte]
  · have : rmN (V 5) (V 1) s 0 = V 5 := by funext j; unfold rmN; rw [if_neg (by omega)]
    rw [this, sA_id]; rfl
theorem remR {n : Nat} (hn : 5000 < n) (V : St) {s : Nat} (hs : s ≤ 12) (h7 : V 7 0 = J s) : Ok (m_X12_remembers n V) (fun r => Fr [5, 7] V r ∧ r 7 0 = J (min s 11 + 1) ∧ r 5 = rmN (if s = 12 then shA (V 5) 4202 else V 5) (V 1) (min s 11) 382) := by
  unfold m_X12_remembers
  by_cases h : s = 12
  · rw [if_pos (by rw [h7, h]; decide)]
    have hl : lp (fun (rc8 : Int32 × St → Option (St)) (x8l : Int32 × St) =>
(if 4202 ≤ x8l.1 then
some x8l.2
else
(if ix (x8l.1 + 382) 4584 then (if ix x8l.1 4584 then nm (su x8l.2 5 (x8l.1).toNatClampNeg (x8l.2 5 ((x8l.1 + 382)).toNatClampNeg)) (fun u11 =>
rc8 ((x8l.1 + 1), u11)) else none) else none))) n (0, V) = some (sA V 5 (shA (V 5) 4202)) := by
      refine lp_seq (fun k => (J k, sA V 5 (shA (V 5) k))) 4202 (fun rc k hk => ?_) (fun rc => ?_) (by omega) ?_
      · have e : ¬ (4202 : Int32) ≤ J k := by rw [show (4202 : Int32) = J 4202 from rfl, J_le (by omega) (by omega)]; omega
        have ea : J k + 382 = J (k + 382) := J_add k 382
        simp (disch := omega) only [e, ea, ↓reduceIte, ix_J, J_nat, nm_s, J_succ]
        rw [su_sA, sA_e, shA_succ]
      · have e : (4202 : Int32) ≤ J 4202 := by decide
        simp only [e, ↓reduceIte]
      · have : shA (V 5) 0 = V 5 := by funext j; unfold shA; rw [if_neg (by omega)]
        rw [this, sA_id]; rfl
    rw [hl, bd_s, bd_s]
    have e7 : sA V 5 (shA (V 5) 4202) 7 0 = J (11 + 1) := by rw [sA_n _ _ _ (by decide), h7, h]
    rw [remR1 hn _ (s := 11) (by omega) e7]
    refine ok_some ⟨((Fr.rfl _ _).row (by simp) _).row (by simp) _, ?_, ?_⟩
    · rw [sA_n _ _ _ (by decide), e7, h]; rfl
    · rw [sA_e, sA_e, sA_n _ _ _ (by decide), if_pos h, h]; rfl
  · rw [if_neg (by rw [h7, show (12 : Int32) = J 12 from rfl, J_inj (by omega) (by omega)]; exact h), nm_s, bd_s]
    have e7 : su V 7 0 (V 7 0 + 1) 7 0 = J (s + 1) := by rw [su_e, upd_e, h7, J_succ]
    rw [remR1 hn _ (s := s) (by omega) e7]
    refine ok_some ⟨((Fr.rfl _ _).put (by simp) _ _).row (by simp) _, ?_, ?_⟩
    · rw [sA_n _ _ _ (by decide), e7]; congr 2; omega
    · rw [sA_e, su_n _ _ _ _ (by decide), su_n _ _ _ _ (by decide), if_neg h]; congr 1; omega
def unN (a w : Nat → Int32) (s k : Nat) : Nat → Int32 := fun j => if j < k then a (382 * s + j) else w j
theorem unN_succ (a w : Nat → Int32) (s k : Nat) : upd (unN a w s k) k (a (382 * s + k)) = unN a w s (k + 1) := by
  funext j; rw [upd_a]; unfold unN
  by_cases e : j = k
  · subst e; rw [if_pos rfl, if_pos (by omega)]
  · rw [if_neg e]
    by_cases q : j < k
    · rw [if_pos q, if_pos (by omega)]
    · rw [if_neg q, if_neg (by omega)]
theorem undoR {n : Nat} (hn : 5000 < n) (V : St) {s : Nat} (hs : s ≤ 12) (h7 : V 7 0 = J s) : m_X12_undo n V = if s = 0 then some (0, su V 0 0 0) else some (1, sA (su (su V 0 0 0) 7 0 (J (s - 1))) 1 (unN (V 5) (V 1) (s - 1) 382)) := by
  unfold m_X12_undo
  rw [nm_s]
  have e1 : su V 0 0 0 1 = V 1 := su01 V 0
  have e5 : su V 0 0 0 5 = V 5 := su_n _ _ _ _ (by decide)
  have e7 : su V 0 0 0 7 = V 7 := su_n _ _ _ _ (by decide)
  rw [← e7] at h7
  rw [← e1, ← e5]
  generalize su V 0 0 0 = U at h7 ⊢
  rw [h7]
  by_cases h : s = 0
  · rw [if_pos h, if_pos (by rw [h]; rfl)]
  · rw [if_neg h, if_neg (by rw [show (0 : Int32) = J 0 from rfl, J_inj (by omega) (by omega)]; exact h), nm_s, J_pred (by omega)]
    have f7 : su U 7 0 (J (s - 1)) 7 0 = J (s - 1) := by rw [su_e, upd_e]
    have f1 : su U 7 0 (J (s - 1)) 1 = U 1 := su_n _ _ _ _ (by decide)
    have f5 : su U 7 0 (J (s - 1)) 5 = U 5 := su_n _ _ _ _ (by decide)
    rw [← f1, ← f5]
    generalize su U 7 0 (J (s - 1)) = X at f7 ⊢
    refine lp_seq (fun k => (J k, sA X 1 (unN (X 5) (X 1) (s - 1) k))) 382 (fun rc k hk => ?_) (fun rc => ?_) (by omega) ?_
    · have e : ¬ (382 : Int32) ≤ J k := by rw [show (382 : Int32) = J 382 from rfl, J_le (by omega) (by omega)]; omega
      have g7 : sA X 1 (unN (X 5) (X 1) (s - 1) k) 7 0 = J (s - 1) := by rw [sA_n _ _ _ (by decide)]; exact f7
      have ea : 382 * J (s - 1) + J k = J (382 * (s - 1) + k) := by rw [show (382 : Int32) = J 382 from rfl, J_mul, J_add]
      simp (disch := omega) only [e, g7, ea, ↓reduceIte, ix_J, J_nat, nm_s, J_succ]
      rw [su_sA, sA_n _ _ _ (by decide), unN_succ]
    · have e : (382 : Int32) ≤ J 382 := by decide
      simp only [e, ↓reduceIte]
    · have : unN (X 5) (X 1) (s - 1) 0 = X 1 := by funext j; unfold unN; rw [if_neg (by omega)]
      rw [this, sA_id]; rfl
end PKEEP
