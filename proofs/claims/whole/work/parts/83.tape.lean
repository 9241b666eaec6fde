section PTAPE
def isByte (x : Int32) : Prop := -128 ≤ x.toInt ∧ x.toInt < 128
def byt (x : Int32) (i : Nat) : Int32 := yb (x_i2b (x_shr x (J (24 - 8 * i))))
theorem yb_byte (x : Int32) : isByte (yb x) := by
  have ey : yb x = x.toInt8.toInt32 := rfl
  rw [ey]
  unfold isByte
  have h1 := Int8.le_toInt x.toInt8
  have h2 := Int8.toInt_lt x.toInt8
  have e : x.toInt8.toInt32.toInt = x.toInt8.toInt := by simp
  rw [e]
  omega
theorem i2b_eq {x y : Int32} (h : ∀ k, k < 8 → tb x k = tb y k) : x_i2b x = x_i2b y := by
  unfold x_i2b
  congr 1
  apply Int8.toBitVec_inj.mp
  rw [Int32.toBitVec_toInt8, Int32.toBitVec_toInt8]
  apply BitVec.eq_of_getLsbD_eq
  intro k hk
  rw [BitVec.getLsbD_signExtend, BitVec.getLsbD_signExtend]
  simp only [hk, decide_true, Bool.true_and, show k < 32 from by omega, if_true]
  exact h k hk
theorem ushr_b (x : Int32) {i : Nat} (hi : i < 4) : yb (x_i2b (x_ushr x (J (24 - 8 * i)))) = byt x i := by
  unfold byt
  congr 1
  apply i2b_eq
  intro k hk
  have hs : 24 - 8 * i < 32 := by omega
  have e2 : tb (x_shr x (J (24 - 8 * i))) k = tb x (24 - 8 * i + k) := by
    unfold tb x_shr
    rw [J31 hs, Int32.toBitVec_shiftRight, BitVec.sshiftRight', J_bv hs, BitVec.getLsbD_sshiftRight]
    simp only [show ¬ (32 ≤ k) from by omega, decide_false, Bool.not_false, Bool.true_and]
    rw [if_pos (by omega)]
  have e1 : tb (x_ushr x (J (24 - 8 * i))) k = tb x (24 - 8 * i + k) := by
    have hsh : ∀ i : Nat, i < 4 → ((J (24 - 8 * i)).toUInt32 &&& Int32.toUInt32 31).toBitVec = BitVec.ofNat 32 (24 - 8 * i) := by decide +kernel
    have hmod : ∀ i : Nat, i < 4 → ((BitVec.ofNat 32 (24 - 8 * i)) % 32#32).toNat = 24 - 8 * i := by decide +kernel
    unfold tb x_ushr
    show (x.toUInt32 >>> ((J (24 - 8 * i)).toUInt32 &&& Int32.toUInt32 31)).toBitVec.getLsbD k = _
    rw [UInt32.toBitVec_shiftRight, hsh i hi]
    show (x.toBitVec >>> (BitVec.ofNat 32 (24 - 8 * i) % 32#32)).getLsbD k = _
    rw [BitVec.ushiftRight_eq', hmod i hi, BitVec.getLsbD_ushiftRight]
  rw [e1, e2]
theorem putX {n : Nat} (hn : 5000 < n) {v T : St} {k : Nat} (hk : k + 4 ≤ 400) (h1 : v 1 0 = J k) (x : Int32) :
    Ok (m_X11_putBytes n v T x) (fun r => r.1 1 0 = J (k + 4) ∧ Fr [1] v r.1 ∧ ∀ j, r.2 0 j = if k ≤ j ∧ j < k + 4 then byt x (j - k) else T 0 j) := by
  unfold m_X11_putBytes
  refine ok_bd2 (P := fun r => r.1 1 0 = J (k + 4) ∧ Fr [1] v r.1 ∧ ∀ j, r.2 0 j = if k ≤ j ∧ j < k + 4 then byt x (j - k) else T 0 j) ?_ (fun r hr => ok_some hr)
  refine ok_forE (fun i (y : St × St) => ((if i < 4 then J (24 - 8 * i) else -8), y.1, y.2)) 4 (fun i y => y.1 1 0 = J (k + i) ∧ Fr [1] v y.1 ∧ ∀ j, y.2 0 j = if k ≤ j ∧ j < k + i then byt x (j - k) else T 0 j) ?_ ?_ (by omega) (v, T) rfl ⟨h1, Fr.rfl _ _, fun j => by dsimp only; rw [if_neg (by omega)]⟩
  · rintro rc i ⟨y, Y⟩ hi ⟨e1, hf, hY⟩ ih
    dsimp only at e1 hf hY
    have e2 : (if i < 4 then J (24 - 8 * i) else -8) = J (24 - 8 * i) := if_pos hi
    have e3 : J (24 - 8 * i) + (-8) = (if i + 1 < 4 then J (24 - 8 * (i + 1)) else -8) := by
      have : ∀ i : Nat, i < 4 → J (24 - 8 * i) + (-8) = (if i + 1 < 4 then J (24 - 8 * (i + 1)) else -8) := by decide +kernel
      exact this i hi
    have e4 : ¬ (400 : Int32) ≤ J (k + i) := by rw [show (400 : Int32) = J 400 from rfl, J_le (by omega) (by omega)]; omega
    simp (disch := omega) only [e2, J_nn, e1, e4, e3, ↓reduceIte, ix_J, J_nat, nm_s, ushr_b x hi, J_succ]
    have ih' : ∀ z Z : St, z 1 0 = J (k + (i + 1)) → Fr [1] v z → (∀ j, Z 0 j = if k ≤ j ∧ j < k + (i + 1) then byt x (j - k) else T 0 j) → Ok (rc ((if i + 1 < 4 then J (24 - 8 * (i + 1)) else -8), z, Z)) (fun r => r.1 1 0 = J (k + 4) ∧ Fr [1] v r.1 ∧ ∀ j, r.2 0 j = if k ≤ j ∧ j < k + 4 then byt x (j - k) else T 0 j) := fun z Z a b c => ih (z, Z) ⟨a, b, c⟩
    refine ih' _ _ (by rw [su_e, upd_e]; rfl) (hf.put (by simp) _ _) (fun j => ?_)
    rw [su_e, upd_a]
    by_cases q : j = k + i
    · subst q; rw [if_pos rfl, if_pos (by omega), show k + i - k = i from by omega]
    · rw [if_neg q, hY j]
      by_cases q2 : k ≤ j ∧ j < k + i
      · rw [if_pos q2, if_pos (by omega)]
      · rw [if_neg q2, if_neg (by omega)]
  · rintro rc ⟨y, Y⟩ h
    have e2 : (if 4 < 4 then J (24 - 8 * 4) else (-8 : Int32)) = -8 := if_neg (by omega)
    have e3 : ((-8 : Int32) < 0) := by decide
    simp only [e2, e3, ↓reduceIte]
    exact ok_some h
/-- the tapes are alike -/
def TR (v T V : St) : Prop := ∃ k, k ≤ 400 ∧ v 1 0 = J k ∧ V 9 0 = J k ∧ ∀ j, j < 400 → T 0 j = V 8 j ∧ isByte (V 8 j)
def five (a b c d e : Int32) (i : Nat) : Int32 := if i = 0 then a else if i = 1 then b else if i = 2 then c else if i = 3 then d else e
def fedS (T : Nat → Int32) (k : Nat) (f : Nat → Int32) (j : Nat) : Int32 := if k ≤ j ∧ j < k + 20 then byt (f ((j - k) / 4)) ((j - k) % 4) else T j
theorem feedX {n : Nat} (hn : 5000 < n) {v T : St} {k : Nat} (hk : k + 20 ≤ 400) (h1 : v 1 0 = J k) (a b c d e : Int32) :
    Ok (m_X11_feed n v T a b c d e) (fun r => r.1 = J (k + 20) ∧ r.2.1 1 0 = J (k + 20) ∧ Fr [1] v r.2.1 ∧ ∀ j, r.2.2 0 j = fedS (T 0) k (five a b c d e) j) := by
  unfold m_X11_feed
  rw [if_pos (by rw [h1, show (20 : Int32) = J 20 from rfl, J_add, show (400 : Int32) = J 400 from rfl, J_le (by omega) (by omega)]; exact hk)]
  refine ok_bd2 (putX hn (by omega) h1 a) ?_
  rintro ⟨v1, T1⟩ ⟨a1, a2, a3⟩
  dsimp only at a1 a2 a3 ⊢
  refine ok_bd2 (putX hn (k := k + 4) (by omega) a1 b) ?_
  rintro ⟨v2, T2⟩ ⟨b1, b2, b3⟩
  dsimp only at b1 b2 b3 ⊢
  refine ok_bd2 (putX hn (k := k + 4 + 4) (by omega) b1 c) ?_
  rintro ⟨v3, T3⟩ ⟨c1, c2, c3⟩
  dsimp only at c1 c2 c3 ⊢
  refine ok_bd2 (putX hn (k := k + 4 + 4 + 4) (by omega) c1 d) ?_
  rintro ⟨v4, T4⟩ ⟨d1, d2, d3⟩
  dsimp only at d1 d2 d3 ⊢
  refine ok_bd2 (putX hn (k := k + 4 + 4 + 4 + 4) (by omega) d1 e) ?_
  rintro ⟨v5, T5⟩ ⟨e1, e2, e3⟩
  dsimp only at e1 e2 e3 ⊢
  refine ok_some ⟨e1, e1, (((a2.tr b2).tr c2).tr d2).tr e2, fun j => ?_⟩
  dsimp only
  unfold fedS
  rw [e3 j, d3 j, c3 j, b3 j, a3 j]
  by_cases q : k ≤ j ∧ j < k + 20
  · rw [if_pos q]
    rcases (by omega : (j - k) / 4 = 0 ∨ (j - k) / 4 = 1 ∨ (j - k) / 4 = 2 ∨ (j - k) / 4 = 3 ∨ (j - k) / 4 = 4) with h | h | h | h | h
    · rw [if_neg (by omega), if_neg (by omega), if_neg (by omega), if_neg (by omega), if_pos (by omega), h, show (j - k) % 4 = j - k from by omega]; rfl
    · rw [if_neg (by omega), if_neg (by omega), if_neg (by omega), if_pos (by omega), h, show (j - k) % 4 = j - (k + 4) from by omega]; rfl
    · rw [if_neg (by omega), if_neg (by omega), if_pos (by omega), h, show (j - k) % 4 = j - (k + 4 + 4) from by omega]; rfl
    · rw [if_neg (by omega), if_pos (by omega), h, show (j - k) % 4 = j - (k + 4 + 4 + 4) from by omega]; rfl
    · rw [if_pos (by omega), h, show (j - k) % 4 = j - (k + 4 + 4 + 4 + 4) from by omega]; rfl
  · rw [if_neg q, if_neg (by omega), if_neg (by omega), if_neg (by omega), if_neg (by omega), if_neg (by omega)]
theorem feedR {n : Nat} (hn : 5000 < n) {V : St} {k : Nat} (hk : k + 20 ≤ 400) (h9 : V 9 0 = J k) (a b c d e : Int32) :
    Ok (m_X12_feed n V a b c d e) (fun r => r.1 = J (k + 20) ∧ r.2 9 0 = J (k + 20) ∧ r.2 0 0 = 0 ∧ Fr [0, 8, 9, 15] V r.2 ∧ ∀ j, r.2 8 j = fedS (V 8) k (five a b c d e) j) := by
  unfold m_X12_feed
  simp only [nm_s]
  rw [if_pos (by rw [su_n _ _ _ _ (by decide), h9, show (20 : Int32) = J 20 from rfl, J_add, show (400 : Int32) = J 400 from rfl, J_le (by omega) (by omega)]; exact hk)]
  have f0 : Fr [0, 15] V (su (su (su (su (su (su V 0 0 0) 15 0 a) 15 1 b) 15 2 c) 15 3 d) 15 4 e) := ((((((Fr.rfl _ _).put (by simp) _ _).put (by simp) _ _).put (by simp) _ _).put (by simp) _ _).put (by simp) _ _).put (by simp) _ _
  have g0 : su (su (su (su (su (su V 0 0 0) 15 0 a) 15 1 b) 15 2 c) 15 3 d) 15 4 e 0 0 = 0 := by simp [su_a, upd_a]
  have g5 : ∀ i, i < 5 → su (su (su (su (su (su V 0 0 0) 15 0 a) 15 1 b) 15 2 c) 15 3 d) 15 4 e 15 i = five a b c d e i := by
    intro i hi
    rcases (by omega : i = 0 ∨ i = 1 ∨ i = 2 ∨ i = 3 ∨ i = 4) with rfl | rfl | rfl | rfl | rfl <;> simp [su_a, upd_a, five]
  generalize su (su (su (su (su (su V 0 0 0) 15 0 a) 15 1 b) 15 2 c) 15 3 d) 15 4 e = U at f0 g0 g5 ⊢
  have e9 : U 9 0 = J k := by rw [f0 9 (by simp)]; exact h9
  have e8 : U 8 = V 8 := f0 8 (by simp)
  refine ok_bd2 (P := fun x => Fr [8] U x ∧ ∀ j, x 8 j = fedS (V 8) k (five a b c d e) j) ?_ ?_
  · refine ok_forE (fun i x => (J i, x)) 20 (fun i x => Fr [8] U x ∧ ∀ j, x 8 j = if k ≤ j ∧ j < k + i then byt (five a b c d e ((j - k) / 4)) ((j - k) % 4) else V 8 j) ?_ ?_ (by omega) U rfl ⟨Fr.rfl _ _, fun j => by rw [if_neg (by omega), e8]⟩
    · rintro rc i x hi ⟨hf, hx⟩ ih
      have e1 : ¬ (20 : Int32) ≤ J i := by rw [show (20 : Int32) = J 20 from rfl, J_le (by omega) (by omega)]; omega
      have hdm : ∀ i : Nat, i < 20 → J i / 4 = J (i / 4) ∧ 24 - 8 * x_rem (J i) 4 = J (24 - 8 * (i % 4)) := by decide +kernel
      obtain ⟨hd, hm⟩ := hdm i hi
      have x9 : x 9 0 = J k := by rw [hf 9 (by simp)]; exact e9
      have x15 : x 15 (i / 4) = five a b c d e (i / 4) := by rw [hf 15 (by simp)]; exact g5 _ (by omega)
      simp (disch := omega) only [e1, hd, hm, x9, J_add, ↓reduceIte, ix_J, J_nat, x15, nm_s, J_succ i]
      refine ih _ ⟨hf.put (by simp) _ _, fun j => ?_⟩
      rw [su_e, upd_a]
      by_cases q : j = k + i
      · subst q; rw [if_pos rfl, if_pos (by omega), show k + i - k = i from by omega]; rfl
      · rw [if_neg q, hx j]
        by_cases q2 : k ≤ j ∧ j < k + i
        · rw [if_pos q2, if_pos (by omega)]
        · rw [if_neg q2, if_neg (by omega)]
    · rintro rc x hx
      have e1 : (20 : Int32) ≤ J 20 := by decide
      simp only [e1, ↓reduceIte]
      exact ok_some hx
  · rintro x ⟨hf, hx⟩
    have x9 : x 9 0 = J k := by rw [hf 9 (by simp)]; exact e9
    have e20 : su x 9 0 (x 9 0 + 20) 9 0 = J (k + 20) := by rw [su_e, upd_e, x9, show (20 : Int32) = J 20 from rfl, J_add]
    refine ok_some ⟨e20, e20, ?_, ?_, fun j => ?_⟩
    · dsimp only; rw [su_n _ _ _ _ (by decide), hf 0 (by simp)]; exact g0
    · exact ((f0.mono (by simp)).tr (hf.mono (by simp))).put (by simp) _ _
    · dsimp only; rw [su_n _ _ _ _ (by decide)]; exact hx j
theorem feed_no (n : Nat) {v T V : St} {k : Nat} (hk : ¬ k + 20 ≤ 400) (hk4 : k ≤ 400) (h1 : v 1 0 = J k) (h9 : V 9 0 = J k) (a b c d e : Int32) : m_X11_feed n v T a b c d e = some (-1, v, T) ∧ m_X12_feed n V a b c d e = some (-1, su V 0 0 0) := by
  have hq : ¬ J k + 20 ≤ 400 := by rw [show (20 : Int32) = J 20 from rfl, J_add, show (400 : Int32) = J 400 from rfl, J_le (by omega) (by omega)]; exact hk
  constructor
  · unfold m_X11_feed; rw [h1, if_neg hq]
  · unfold m_X12_feed; rw [nm_s, su_n _ _ _ _ (by decide), h9, if_neg hq]
end PTAPE
