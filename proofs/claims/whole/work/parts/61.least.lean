section PLEAST
def bcF (x : Int32) : Int32 := (m_J6_bitCount_0f7a4 0 x).getD 0
theorem bc_s (n : Nat) (x : Int32) : m_J6_bitCount_0f7a4 n x = some (bcF x) := by
  unfold bcF m_J6_bitCount_0f7a4; simp only [nm_s]; rfl
def popN (m : Nat) : Nat → Nat
  | 0 => 0
  | k + 1 => popN m k + if m.testBit k then 1 else 0
theorem bcF_J {m : Nat} (h : m < 1024) : bcF (J m) = J (popN m 10) := by
  have : ∀ m : Nat, m < 1024 → bcF (J m) = J (popN m 10) := by decide +kernel
  exact this m h
theorem popN_le (m : Nat) : ∀ k, popN m k ≤ k
  | 0 => Nat.le_refl _
  | k + 1 => by
    have := popN_le m k
    unfold popN; split <;> omega
theorem popN_congr {a b : Nat} : ∀ {k : Nat}, (∀ i, i < k → a.testBit i = b.testBit i) → popN a k = popN b k
  | 0, _ => rfl
  | k + 1, h => by
    unfold popN
    rw [popN_congr (fun i hi => h i (by omega)), h k (by omega)]
theorem tb_Jt {m k : Nat} (h : k < 32) : tb (J m) k = m.testBit k := tb_J h
/-- a set of few is small -/
theorem low_or {x y : Int32} {N : Nat} (hx : low x N) (hy : low y N) : low (x ||| y) N := fun k hk => by rw [tb_or, hx k hk, hy k hk]; rfl
theorem low_mono {x : Int32} {N M : Nat} (h : low x N) (hNM : N ≤ M) : low x M := fun k hk => h k (by omega)
theorem inS_low {w : Nat → Int32} (hI : WInv w) (x : Int32) : low (inS w x) 10 := by
  have := hI.t10
  exact low_mono (setN_low _ (by omega)) this
theorem inS_J {w : Nat → Int32} (hI : WInv w) (x : Int32) : ∃ m, inS w x = J m ∧ m < 1024 := low_J (inS_low hI x) (by omega)
theorem thS_J {w : Nat → Int32} (hI : WInv w) (p : Nat) : ∃ m, thS w p = J m ∧ m < 1024 := low_J (low_or (inS_low hI _) (inS_low hI _)) (by omega)
theorem and_sub (x y : Int32) : (x &&& (y ^^^ (-1))) = 0 ↔ (x &&& y) = x := by
  constructor
  · intro h
    apply tb_ext
    intro k hk
    have := congrArg (fun z => tb z k) h
    simp only [tb_and, tb_xor, tb_m1 hk, tb_0] at this
    rw [tb_and]
    revert this
    cases tb x k <;> cases tb y k <;> simp
  · intro h
    apply tb_ext
    intro k hk
    have := congrArg (fun z => tb z k) h
    simp only [tb_and] at this
    simp only [tb_and, tb_xor, tb_m1 hk, tb_0]
    revert this
    cases tb x k <;> cases tb y k <;> simp
theorem wgS_b {w : Nat → Int32} (hI : WInv w) (x : Int32) : ∃ s, s ≤ 600 ∧ wgS w x = J s := by
  unfold wgS
  have key : ∀ N, N ≤ nT w → ∃ s, s ≤ 60 * N ∧ foldN (fun t a => a + (if tb x t then w (52 + 3 * t) else 0)) 0 N = J s := by
    intro N
    induction N with
    | zero => exact fun _ => ⟨0, by omega, rfl⟩
    | succ N ih =>
      intro hN
      obtain ⟨s, hs, e⟩ := ih (by omega)
      obtain ⟨k, ek, -, hk⟩ := (hI.th (t := N) (by omega)).1
      by_cases q : tb x N = true
      · exact ⟨s + k, by omega, by simp only [foldN, e, q, ↓reduceIte, ek, J_add]⟩
      · refine ⟨s, by omega, ?_⟩
        show foldN _ 0 N + (if tb x N = true then _ else _) = _
        rw [e, if_neg q, Int32.add_zero]
  obtain ⟨s, hs, e⟩ := key (nT w) (Nat.le_refl _)
  have := hI.t10
  exact ⟨s, by omega, e⟩
def costS (w : Nat → Int32) (by_ : Int32) (s : Int32) : Int32 := if by_ = 0 then bcF s else wgS w s
theorem cost_b {w : Nat → Int32} (hI : WInv w) (by_ : Int32) {m : Nat} (hm : m < 1024) : ∃ s, s ≤ 600 ∧ costS w by_ (J m) = J s := by
  unfold costS
  split
  · exact ⟨popN m 10, by have := popN_le m 10; omega, bcF_J hm⟩
  · exact wgS_b hI _
abbrev fitS (w : Nat → Int32) (p : Nat) (tl : Int32) (s : Nat) : Prop := (J s &&& thS w p) = J s ∧ leanS (w 6) (dfS w p + shS w p (J s)) = tl
def lsF (w : Nat → Int32) (p : Nat) (tl by_ : Int32) (s : Nat) (a : Int32 × Int32) : Int32 × Int32 :=
  if fitS w p tl s then (if a.1 = -1 then (J s, costS w by_ (J s)) else if a.2 ≤ costS w by_ (J s) then a else (J s, costS w by_ (J s))) else a
def lsS (w : Nat → Int32) (p : Nat) (tl by_ : Int32) : Int32 := (foldN (lsF w p tl by_) (-1, 0) ((thS w p).toNatClampNeg + 1)).1
theorem lsX {n : Nat} (hn : 5000 < n) {v : St} {w : Nat → Int32} (hR : HR v w) {p : Nat} (hp : p < nP w) (tl by_ : Int32) : m_X0_leastSet n v (J p) tl by_ = some (lsS w p tl by_) := by
  have h5 := hR.1.p5
  have h10 := hR.1.t10
  obtain ⟨m, em, hm⟩ := thS_J hR.1 p
  unfold m_X0_leastSet lsS
  simp (disch := omega) only [J_dbl, J_dbl1, XthingsIn hn hR.1 hR.2.1, bd_s, ix_J, ↓reduceIte, J_nat, (hR.2.2 (2 * p) (by omega)).1, (hR.2.2 (2 * p + 1) (by omega)).1, nm_s]
  have e1 : inS w (J (2 * p)) ||| inS w (J (2 * p + 1)) = J m := em
  have e2 : loadS w (2 * p + 1) - loadS w (2 * p) = dfS w p := rfl
  rw [e1, e2, em, J_nat (by omega)]
  refine lp_fold (fun k (a : Int32 × Int32) => (a.1, a.2, J k)) _ (fun a => a.1) _ (m + 1) (fun rc k a hk => ?_) (fun rc a => ?_) (by omega) rfl
  · simp (disch := omega) only [J_lt, show ¬ m < k from by omega, ↓reduceIte, shX hn hR.1 hR.2.1, Xleaning hR.1 hR.2.1, bd_s, jn_s, bc_s, XweightOf hn hR.1 hR.2.1, J_succ]
    have e3 : dfS w p + shS w p (J k) - 0 = dfS w p + shS w p (J k) := by grind
    rw [e3]
    have hc : (if by_ = 0 then some (bcF (J k)) else some (wgS w (J k))) = some (costS w by_ (J k)) := by unfold costS; split <;> rfl
    rw [hc]
    unfold lsF
    by_cases q1 : (J k &&& J m) = J k
    · by_cases q2 : leanS (w 6) (dfS w p + shS w p (J k)) = tl
      · rw [if_pos q1, if_pos q2, bd_s, if_neg (by decide), bd_s, if_pos (show fitS w p tl k from ⟨by rw [em]; exact q1, q2⟩)]
        by_cases q3 : a.1 = -1
        · rw [if_pos q3, if_pos q3, bd_s]
        · rw [if_neg q3, if_neg q3]
          by_cases q4 : a.2 ≤ costS w by_ (J k)
          · rw [if_pos q4, if_pos q4, bd_s]
          · rw [if_neg q4, if_neg q4, bd_s]
      · rw [if_pos q1, if_neg q2, bd_s, if_pos rfl, bd_s, if_neg (fun h => q2 h.2)]
    · rw [if_neg q1, bd_s, if_pos rfl, bd_s, if_neg (fun h => q1 (by have := h.1; rw [em] at this; exact this))]
  · simp (disch := omega) only [J_lt, show m < m + 1 from by omega, ↓reduceIte]
def r2 (a : Int32 × Int32) : Int32 := if a.1 = -1 then 1000000 else a.2
theorem lsR {n : Nat} (hn : 5000 < n) {u : St} (hI : WInv (u 1)) {p : Nat} (hp : p < nP (u 1)) (tl by_ : Int32) : m_X12_carriedTo n u (J p) tl by_ = some (lsS (u 1) p tl by_) := by
  have h5 := hI.p5
  have h10 := hI.t10
  obtain ⟨m, em, hm⟩ := thS_J hI p
  unfold m_X12_carriedTo lsS
  rw [thR hn hI, bd_s, em, J_nat (by omega)]
  refine lp_fold (fun k (a : Int32 × Int32) => (a.1, r2 a, J k)) (lsF (u 1) p tl by_) (fun a => a.1) (-1, 0) (m + 1) (fun rc k a hk => ?_) (fun rc a => ?_) (by omega) rfl
  · have r2a : r2 a = if a.1 = -1 then 1000000 else a.2 := rfl
    simp (disch := omega) only [J_lt, show ¬ m < k from by omega, ↓reduceIte, mbR hn hI hp, tiltBy_s n u hI, bd_s, bc_s, weightOf_s hn u _ hI.t hI.t10, J_succ, nm_s, and_sub]
    have hc : (if by_ = 0 then some (bcF (J k)) else some (wgS (u 1) (J k))) = some (costS (u 1) by_ (J k)) := by unfold costS; split <;> rfl
    rw [hc]
    unfold lsF
    by_cases q1 : (J k &&& J m) = J k
    · by_cases q2 : leanS (u 1 6) (dfS (u 1) p + shS (u 1) p (J k)) = tl
      · rw [if_pos q1, if_pos q2, bd_s, if_pos (show fitS (u 1) p tl k from ⟨by rw [em]; exact q1, q2⟩)]
        obtain ⟨c, hc, ec⟩ := cost_b hI by_ (m := k) (by omega)
        have hk1 := J_ne_neg (k := k) (by omega)
        by_cases q3 : a.1 = -1
        · have hF : ¬ (1000000 : Int32) ≤ costS (u 1) by_ (J k) := by
            rw [ec, show (1000000 : Int32) = J 1000000 from rfl, J_le (by omega) (by omega)]; omega
          simp only [r2, q3, ↓reduceIte, hF, bd_s, x_min_gt hF, hk1]
        · by_cases q4 : a.2 ≤ costS (u 1) by_ (J k)
          · simp only [r2, q3, ↓reduceIte, q4, bd_s, x_min_le q4]
          · simp only [r2, q3, ↓reduceIte, q4, bd_s, x_min_gt q4, hk1]
      · rw [if_pos q1, if_neg q2, bd_s, if_neg (fun h => q2 h.2)]
    · rw [if_neg q1, bd_s, if_neg (fun h => q1 (by have := h.1; rw [em] at this; exact this))]
  · simp (disch := omega) only [J_lt, show m < m + 1 from by omega, ↓reduceIte]
end PLEAST
