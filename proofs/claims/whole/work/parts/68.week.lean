section PWEEK
-- draws
def drS (x : Int32) : Int32 := 1103515245 * x + 12345
def drV (x : Int32) : Int32 := x_shr x 16 &&& 32767
theorem ush (x : Int32) : (x_ushr x 16 &&& 32767) = drV x := by
  apply tb_ext
  intro k hk
  unfold drV
  rw [tb_and, tb_and]
  by_cases h : k < 15
  · have e1 : tb (x_ushr x 16) k = tb x (k + 16) := by
      unfold tb x_ushr
      show (x.toUInt32 >>> (Int32.toUInt32 16 &&& Int32.toUInt32 31)).toBitVec.getLsbD k = _
      rw [UInt32.toBitVec_shiftRight]
      show (x.toBitVec >>> (16 : Nat)).getLsbD k = _
      rw [BitVec.getLsbD_ushiftRight, Nat.add_comm]
    have e2 : tb (x_shr x 16) k = tb x (k + 16) := by
      unfold tb x_shr
      rw [show (16 &&& 31 : Int32) = J 16 from by decide, Int32.toBitVec_shiftRight, BitVec.sshiftRight', J_bv (by omega), BitVec.getLsbD_sshiftRight]
      simp only [show ¬ (32 ≤ k) from by omega, show 16 + k < 32 from by omega, decide_false, Bool.not_false, Bool.true_and, if_true, Nat.add_comm]
      rw [if_pos (by omega)]
    rw [e1, e2]
  · have : ∀ k : Nat, k < 32 → ¬ k < 15 → tb 32767 k = false := by decide +kernel
    rw [this k hk h, Bool.and_false, Bool.and_false]
theorem drawR (n : Nat) (V : St) {m : Int32} (hm : ¬ m = 0) : m_X12_drawn n V m = some (x_rem (drV (drS (V 1 11))) m, su V 1 11 (drS (V 1 11))) := by
  unfold m_X12_drawn
  rw [nm_s, if_pos hm, su_e, upd_e]; rfl
theorem drawX (n : Nat) (v : St) : m_X3_draw n v = some (drV (drS (v 8 0)), su v 8 0 (drS (v 8 0))) := by
  unfold m_X3_draw
  rw [nm_s, su_e, upd_e, ush]; rfl
-- the log
def tellW (w : Nat → Int32) (t f o c : Int32) : Nat → Int32 := fun k =>
  if k = 10 then x_min 60 (w 10 + 1) else if k = 82 then w 4 else if k = 83 then t else if k = 84 then f else if k = 85 then o else if k = 86 then c else if 87 ≤ k ∧ k < 382 then w (k - 5) else w k
def shR (w : Nat → Int32) (i : Nat) : Nat → Int32 := fun k => if 381 - i < k ∧ k < 382 then w (k - 5) else w k
theorem su_sA (V : St) (f k : Nat) (g : Nat → Int32) (x : Int32) : su (sA V f g) f k x = sA V f (upd g k x) := by
  funext h
  by_cases e : h = f
  · subst e; rw [su_e, sA_e, sA_e]
  · rw [su_n _ _ _ _ e, sA_n _ _ _ e, sA_n _ _ _ e]
theorem sA_id (V : St) (f : Nat) : sA V f (V f) = V := by
  funext h
  by_cases e : h = f
  · subst e; rw [sA_e]
  · rw [sA_n _ _ _ e]
theorem su_is (V : St) (f k : Nat) (x : Int32) : su V f k x = sA V f (upd (V f) k x) := rfl
theorem tellsR {n : Nat} (hn : 5000 < n) (V : St) (t f o c : Int32) : m_X12_tells n V t f o c = some (sA V 1 (tellW (V 1) t f o c)) := by
  unfold m_X12_tells
  have hl : lp (fun (rc8 : Int32 × St → Option (St)) (x8l : Int32 × St) =>
(if x8l.1 < 5 then
some x8l.2
else
(if ix ((82 + x8l.1) - 5) 2080 then (if ix (82 + x8l.1) 2080 then nm (su x8l.2 1 ((82 + x8l.1)).toNatClampNeg (x8l.2 1 (((82 + x8l.1) - 5)).toNatClampNeg)) (fun u11 =>
rc8 ((x8l.1 + (-1)), u11)) else none) else none))) n (299, V) = some (sA V 1 (shR (V 1) 295)) := by
    refine lp_seq (fun i => (J (299 - i), sA V 1 (shR (V 1) i))) 295 (fun rc i hi => ?_) (fun rc => ?_) (by omega) ?_
    · have e1 : 82 + J (299 - i) = J (381 - i) := by rw [show (82 : Int32) = J 82 from rfl, J_add]; congr 1; omega
      have e2 : J (381 - i) - 5 = J (376 - i) := by rw [show (5 : Int32) = J 5 from rfl, J_sub (by omega)]; congr 1; omega
      have e3 : ¬ J (299 - i) < 5 := by rw [show (5 : Int32) = J 5 from rfl, J_lt (by omega) (by omega)]; omega
      have e4 : J (299 - i) + (-1) = J (299 - (i + 1)) := by rw [J_neg1 _ (by omega)]; congr 1
      simp (disch := omega) only [e1, e2, e3, e4, ↓reduceIte, ix_J, J_nat, nm_s, sA_e, su_sA]
      congr 2
      apply congrArg (sA V 1)
      funext k
      rw [upd_a]
      unfold shR
      by_cases q : k = 381 - i
      · subst q
        rw [if_pos rfl, if_neg (by omega), if_pos (by omega)]; congr 1; omega
      · rw [if_neg q]
        by_cases q2 : 381 - i < k ∧ k < 382
        · rw [if_pos q2, if_pos (by omega)]
        · rw [if_neg q2, if_neg (by omega)]
    · have e3 : J (299 - 295) < 5 := by decide
      simp only [e3, ↓reduceIte]
    · have : shR (V 1) 0 = V 1 := by funext k; unfold shR; rw [if_neg (by omega)]
      rw [this, sA_id]; rfl
  rw [hl, bd_s]
  simp only [nm_s, sA_e, su_sA]
  congr 1
  apply congrArg (sA V 1)
  funext k
  unfold tellW
  simp only [upd_a]
  by_cases h10 : k = 10
  · subst h10; simp [shR]
  · rw [if_neg h10, if_neg h10]
    by_cases h86 : k = 86
    · subst h86; simp
    · rw [if_neg h86]
      by_cases h85 : k = 85
      · subst h85; simp
      · rw [if_neg h85]
        by_cases h84 : k = 84
        · subst h84; simp
        · rw [if_neg h84]
          by_cases h83 : k = 83
          · subst h83; simp
          · rw [if_neg h83]
            by_cases h82 : k = 82
            · subst h82; simp [shR]
            · rw [if_neg h82, if_neg h82, if_neg h83, if_neg h84, if_neg h85, if_neg h86]
              unfold shR
              by_cases q : 87 ≤ k ∧ k < 382
              · rw [if_pos q, if_pos (by omega)]
              · rw [if_neg q, if_neg (by omega)]
theorem tellW_lo (w : Nat → Int32) (t f o c : Int32) {k : Nat} (h : k < 82) (h10 : k ≠ 10) : tellW w t f o c k = w k := by
  unfold tellW
  rw [if_neg h10, if_neg (by omega), if_neg (by omega), if_neg (by omega), if_neg (by omega), if_neg (by omega), if_neg (by omega)]
theorem tellW_hi (w : Nat → Int32) (t f o c : Int32) {k : Nat} (h : 382 ≤ k) : tellW w t f o c k = w k := by
  unfold tellW
  rw [if_neg (by omega), if_neg (by omega), if_neg (by omega), if_neg (by omega), if_neg (by omega), if_neg (by omega), if_neg (by omega)]
theorem tellW_sh (w : Nat → Int32) (t f o c : Int32) {k : Nat} (h : 87 ≤ k) (h2 : k < 382) : tellW w t f o c k = w (k - 5) := by
  unfold tellW
  rw [if_neg (by omega), if_neg (by omega), if_neg (by omega), if_neg (by omega), if_neg (by omega), if_neg (by omega), if_pos ⟨h, h2⟩]
def cell5 (a b c d e : Int32) (i : Nat) : Int32 := if i = 0 then a else if i = 1 then b else if i = 2 then c else if i = 3 then d else e
theorem tellW_0 (w : Nat → Int32) (t f o c : Int32) {i : Nat} (h : i < 5) : tellW w t f o c (82 + i) = cell5 (w 4) t f o c i := by
  rcases (by omega : i = 0 ∨ i = 1 ∨ i = 2 ∨ i = 3 ∨ i = 4) with rfl | rfl | rfl | rfl | rfl <;> rfl
/-- a row put into the diary -/
theorem addRow_s (n : Nat) {D : St} {r : Nat} (hr : r ≤ 60) (h0 : D 0 0 = J r) (x1 x2 x3 x4 : Int32) :
    Ok (m_X1_addRow n D x1 x2 x3 x4) (fun D' => D' 0 0 = J (min r 59 + 1) ∧ ∀ k, k < 300 → D' 1 k = if 5 * min r 59 ≤ k ∧ k < 5 * min r 59 + 5 then cell5 x1 x2 x3 x4 (if x4 = -1 then 1 else 0) (k - 5 * min r 59) else if r = 60 then D 1 (k + 5) else D 1 k) := by
  unfold m_X1_addRow
  refine ok_bd2 (P := fun t => t 0 0 = J (min r 59) ∧ ∀ k, k < 300 → (r = 60 → k < 295) → t 1 k = if r = 60 then D 1 (k + 5) else D 1 k) ?_ ?_
  · by_cases h : r = 60
    · rw [if_neg (by rw [h0, h]; decide), nm_s, nm_s]
      refine ok_some ⟨?_, fun k hk hk2 => ?_⟩
      · rw [su_e, upd_e, h]; rfl
      · have hk3 := hk2 h
        rw [su_n _ _ _ _ (by decide), sA_e, if_pos h]
        unfold va_cpy
        rw [if_pos (by omega)]; congr 1; omega
    · rw [if_pos (by rw [h0, show (60 : Int32) = J 60 from rfl, J_lt (by omega) (by omega)]; omega)]
      refine ok_some ⟨by rw [h0]; congr 1; omega, fun k hk _ => ?_⟩
      rw [if_neg h]
  · rintro t ⟨t0, t1⟩
    obtain ⟨m, hm⟩ : ∃ m, m = min r 59 := ⟨_, rfl⟩
    rw [← hm] at t0 ⊢
    have e0 : t 0 0 * 5 = J (5 * m) := by rw [t0, show (5 : Int32) = J 5 from rfl, J_mul, Nat.mul_comm]
    have e1 : J (5 * m) + 1 = J (5 * m + 1) := J_add _ 1
    have e2 : J (5 * m) + 2 = J (5 * m + 2) := J_add _ 2
    have e3 : J (5 * m) + 3 = J (5 * m + 3) := J_add _ 3
    have e4 : J (5 * m) + 4 = J (5 * m + 4) := J_add _ 4
    have ec : (if x4 = -1 then some 1 else some 0 : Option Int32) = some (if x4 = -1 then 1 else 0) := by split <;> rfl
    simp (disch := omega) only [nm_s, e0, e1, e2, e3, e4, ix_J, J_nat, ↓reduceIte, ec, bd_s]
    refine ok_some ⟨?_, fun k hk => ?_⟩
    · rw [su_e, upd_e, su_n _ _ _ _ (by decide), su_n _ _ _ _ (by decide), su_n _ _ _ _ (by decide), su_n _ _ _ _ (by decide), su_n _ _ _ _ (by decide), t0, J_succ]
    · rw [su_n _ _ _ _ (by decide)]
      generalize (if x4 = -1 then (1 : Int32) else 0) = y
      simp only [su_e, upd_a]
      unfold cell5
      by_cases c4 : k = 5 * m + 4
      · subst c4; rw [if_pos rfl, if_pos (by omega), if_neg (by omega), if_neg (by omega), if_neg (by omega), if_neg (by omega)]
      · rw [if_neg c4]
        by_cases c3 : k = 5 * m + 3
        · subst c3; rw [if_pos rfl, if_pos (by omega), if_neg (by omega), if_neg (by omega), if_neg (by omega), if_pos (by omega)]
        · rw [if_neg c3]
          by_cases c2 : k = 5 * m + 2
          · subst c2; rw [if_pos rfl, if_pos (by omega), if_neg (by omega), if_neg (by omega), if_pos (by omega)]
          · rw [if_neg c2]
            by_cases c1 : k = 5 * m + 1
            · subst c1; rw [if_pos rfl, if_pos (by omega), if_neg (by omega), if_pos (by omega)]
            · rw [if_neg c1]
              by_cases c0 : k = 5 * m
              · subst c0; rw [if_pos rfl, if_pos (by omega), if_pos (by omega)]
              · rw [if_neg c0, if_neg (by omega)]
                exact t1 k hk (fun h => by omega)
theorem addRow_ok {n : Nat} {D : St} (hD : DW D) (x1 x2 x3 x4 : Int32) : Ok (m_X1_addRow n D x1 x2 x3 x4) (fun D' => DW D' ∧ ∀ w, DR D w → x1 = w 4 → DR D' (tellW w x2 x3 x4 (if x4 = -1 then 1 else 0))) := by
  obtain ⟨r, hr, h0⟩ := hD
  refine (addRow_s n hr h0 x1 x2 x3 x4).mono ?_
  rintro D' ⟨d0, d1⟩
  refine ⟨⟨min r 59 + 1, by omega, d0⟩, ?_⟩
  rintro w ⟨r', hr', g0, g1, g2⟩ e4
  obtain rfl : r' = r := by rw [h0] at g0; exact ((J_inj (by omega) (by omega)).mp g0).symm
  refine ⟨min r' 59 + 1, by omega, d0, ?_, fun a c ha hc => ?_⟩
  · show x_min 60 (w 10 + 1) = _
    rw [g1, J_succ, show (60 : Int32) = J 60 from rfl, J_min (by omega) (by omega)]; congr 1; omega
  · obtain ⟨m, hm⟩ : ∃ m, m = min r' 59 := ⟨_, rfl⟩
    rw [← hm] at d1 ha ⊢
    rw [d1 _ (by omega)]
    by_cases a0 : a = 0
    · subst a0
      rw [if_pos (by omega), show 82 + 5 * 0 + c = 82 + c from by omega, tellW_0 _ _ _ _ _ hc, e4]; congr 1; omega
    · rw [if_neg (by omega), tellW_sh _ _ _ _ _ (by omega) (by omega)]
      by_cases h : r' = 60
      · rw [if_pos h]
        have := g2 (a - 1) c (by omega) hc
        rw [show (r' - 1 - (a - 1)) * 5 + c = (m + 1 - 1 - a) * 5 + c + 5 from by omega, show 82 + 5 * (a - 1) + c = 82 + 5 * a + c - 5 from by omega] at this
        exact this
      · rw [if_neg h]
        have := g2 (a - 1) c (by omega) hc
        rw [show (r' - 1 - (a - 1)) * 5 + c = (m + 1 - 1 - a) * 5 + c from by omega, show 82 + 5 * (a - 1) + c = 82 + 5 * a + c - 5 from by omega] at this
        exact this
end PWEEK
