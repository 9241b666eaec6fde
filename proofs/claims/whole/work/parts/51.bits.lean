section PBITS
def tb (x : Int32) (k : Nat) : Bool := x.toBitVec.getLsbD k
theorem J31 {k : Nat} (h : k < 32) : (J k &&& 31 : Int32) = J k := by
  have : ∀ k : Nat, k < 32 → (J k &&& 31 : Int32) = J k := by decide +kernel
  exact this k h
theorem tb_ext {x y : Int32} (h : ∀ k, k < 32 → tb x k = tb y k) : x = y := by
  apply Int32.toBitVec_inj.mp
  apply BitVec.eq_of_getLsbD_eq
  exact h
theorem tb_or (x y : Int32) (k : Nat) : tb (x ||| y) k = (tb x k || tb y k) := by
  unfold tb; rw [Int32.toBitVec_or, BitVec.getLsbD_or]
theorem tb_and (x y : Int32) (k : Nat) : tb (x &&& y) k = (tb x k && tb y k) := by
  unfold tb; rw [Int32.toBitVec_and, BitVec.getLsbD_and]
theorem tb_xor (x y : Int32) (k : Nat) : tb (x ^^^ y) k = (tb x k != tb y k) := by
  unfold tb; rw [Int32.toBitVec_xor, BitVec.getLsbD_xor]
theorem tb_0 (k : Nat) : tb 0 k = false := by
  unfold tb; simp
theorem tb_m1 {k : Nat} (h : k < 32) : tb (-1) k = true := by
  have : ∀ k : Nat, k < 32 → tb (-1) k = true := by decide +kernel
  exact this k h
theorem tb_1 (k : Nat) : tb 1 k = decide (k = 0) := by
  unfold tb
  rw [show (1 : Int32).toBitVec = 1#32 from rfl, BitVec.getLsbD_one]
  simp
theorem tb_hi (x : Int32) {k : Nat} (h : 32 ≤ k) : tb x k = false := BitVec.getLsbD_of_ge _ _ h
theorem tb_J {k m : Nat} (h : k < 32) : tb (J m) k = m.testBit k := by
  unfold tb
  rw [show (J m).toBitVec = BitVec.ofNat 32 m from rfl, BitVec.getLsbD_ofNat]
  simp [h]
theorem J_bv {k : Nat} (h : k < 32) : ((J k).toBitVec.smod 32).toNat = k := by
  have : ∀ k : Nat, k < 32 → ((J k).toBitVec.smod 32).toNat = k := by decide +kernel
  exact this k h
theorem tb_shl {k t : Nat} (ht : t < 32) (hk : k < 32) : tb (x_shl 1 (J t)) k = decide (k = t) := by
  have : ∀ t : Nat, t < 32 → ∀ k : Nat, k < 32 → tb (x_shl 1 (J t)) k = decide (k = t) := by decide +kernel
  exact this t ht k hk
theorem shr_1 (x : Int32) {k : Nat} (h : k < 32) : (x_shr x (J k) &&& 1 : Int32) = if tb x k then 1 else 0 := by
  apply tb_ext
  intro j hj
  rw [tb_and, tb_1]
  unfold x_shr
  rw [J31 h]
  by_cases h0 : j = 0
  · subst h0
    have e : tb (x >>> J k) 0 = tb x k := by
      unfold tb
      rw [Int32.toBitVec_shiftRight, BitVec.sshiftRight', J_bv h, BitVec.getLsbD_sshiftRight]
      have e2 : 0 + k < 32 := by omega
      simp [h]
    rw [e]
    cases tb x k
    · simp [tb_0]
    · simp [tb_1]
  · simp only [h0, decide_false, Bool.and_false]
    split
    · rw [tb_1]; simp [h0]
    · rw [tb_0]
/-- a set of numbers -/
def setN (P : Nat → Bool) (N : Nat) : Int32 := foldN (fun t a => if P t then a ||| x_shl 1 (J t) else a) 0 N
theorem tb_set (P : Nat → Bool) : ∀ (N : Nat), N ≤ 32 → ∀ k, k < 32 → tb (setN P N) k = (decide (k < N) && P k)
  | 0, _, k, _ => by simp [setN, foldN, tb_0]
  | N + 1, h, k, hk => by
    have ih := tb_set P N (by omega) k hk
    show tb (if P N then setN P N ||| x_shl 1 (J N) else setN P N) k = _
    by_cases hp : P N
    · rw [if_pos hp, tb_or, ih, tb_shl (by omega) hk]
      by_cases e : k = N
      · subst e; simp [hp]
      · have : (k < N + 1) = (k < N) := by apply propext; omega
        simp [e, this]
    · rw [if_neg hp, ih]
      by_cases e : k = N
      · subst e; simp [hp]
      · have : (k < N + 1) = (k < N) := by apply propext; omega
        simp [this]
theorem setN_congr {P Q : Nat → Bool} {N : Nat} (h : ∀ t, t < N → P t = Q t) : setN P N = setN Q N :=
  foldN_congr (fun k a hk => by simp only [h k hk])
/-- what lies in so many low bits -/
def low (x : Int32) (N : Nat) : Prop := ∀ k, N ≤ k → tb x k = false
theorem setN_low (P : Nat → Bool) {N : Nat} (h : N ≤ 32) : low (setN P N) N := by
  intro k hk
  by_cases h2 : k < 32
  · rw [tb_set P N h k h2]; simp; omega
  · exact tb_hi _ (by omega)
theorem low_J {x : Int32} {N : Nat} (h : low x N) (hN : N < 31) : ∃ m, x = J m ∧ m < 2 ^ N := by
  have hm : x.toBitVec.toNat < 2 ^ N := by
    apply Nat.lt_pow_two_of_testBit
    intro i hi
    exact h i hi
  refine ⟨x.toBitVec.toNat, ?_, hm⟩
  apply Int32.toBitVec_inj.mp
  apply BitVec.eq_of_toNat_eq
  show x.toBitVec.toNat = (BitVec.ofNat 32 x.toBitVec.toNat).toNat
  rw [BitVec.toNat_ofNat]
  have : x.toBitVec.toNat < 2 ^ 32 := x.toBitVec.isLt
  omega
end PBITS
