section PGLUE
-- sums
def sumN (f : Nat → Int32) (N : Nat) : Int32 := foldN (fun k a => a + f k) 0 N
theorem sumN_succ (f : Nat → Int32) (N : Nat) : sumN f (N + 1) = sumN f N + f N := rfl
theorem sumN_acc (f : Nat → Int32) (a : Int32) : ∀ N, foldN (fun k a => a + f k) a N = a + sumN f N
  | 0 => (Int32.add_zero a).symm
  | N + 1 => by
    show foldN (fun k a => a + f k) a N + f N = a + (sumN f N + f N)
    rw [sumN_acc f a N, Int32.add_assoc]
theorem sumN_congr {f g : Nat → Int32} : ∀ {N : Nat}, (∀ k, k < N → f k = g k) → sumN f N = sumN g N
  | 0, _ => rfl
  | N + 1, h => by rw [sumN_succ, sumN_succ, sumN_congr (fun k hk => h k (by omega)), h N (by omega)]
theorem sumN_add (f g : Nat → Int32) : ∀ N, sumN (fun k => f k + g k) N = sumN f N + sumN g N
  | 0 => by show (0 : Int32) = 0 + 0; decide
  | N + 1 => by rw [sumN_succ, sumN_succ, sumN_succ, sumN_add f g N]; grind
/-- pairs, the lower one first or the upper one -/
theorem pairs_eq (c : Nat → Nat → Int32) (hc : ∀ a b, c a b = c b a) : ∀ N, sumN (fun a => sumN (fun k => c a (a + 1 + k)) (N - (a + 1))) N = sumN (fun a => sumN (fun b => c a b) a) N
  | 0 => rfl
  | N + 1 => by
    rw [sumN_succ, sumN_succ (fun a => sumN (fun b => c a b) a), ← pairs_eq c hc N]
    have e : sumN (fun a => sumN (fun k => c a (a + 1 + k)) (N + 1 - (a + 1))) N = sumN (fun a => sumN (fun k => c a (a + 1 + k)) (N - (a + 1)) + c N a) N := by
      apply sumN_congr
      intro k hk
      rw [show N + 1 - (k + 1) = (N - (k + 1)) + 1 from by omega, sumN_succ, show k + 1 + (N - (k + 1)) = N from by omega, hc k N]
    rw [e, sumN_add]
    simp only [Nat.sub_self]
    show _ + sumN (fun a => c N a) N + (0 : Int32) = _
    rw [Int32.add_zero]
-- the one with the most
def amax (c : Nat → Bool) (v : Nat → Int32) (N : Nat) : Int32 × Int32 := foldN (fun t s => if c t then (if v t ≤ s.2 then s else (J t, v t)) else s) (-1, -1) N
theorem amax_succ (c : Nat → Bool) (v : Nat → Int32) (N : Nat) : amax c v (N + 1) = if c N then (if v N ≤ (amax c v N).2 then amax c v N else (J N, v N)) else amax c v N := rfl
theorem amax_ge (c : Nat → Bool) (v : Nat → Int32) : ∀ N, -1 ≤ (amax c v N).2
  | 0 => by show (-1 : Int32) ≤ -1; decide
  | N + 1 => by
    have := amax_ge c v N
    rw [amax_succ]
    by_cases h : c N = true
    · rw [if_pos h]
      by_cases h2 : v N ≤ (amax c v N).2
      · rw [if_pos h2]; exact this
      · rw [if_neg h2]; dsimp only; grind
    · rw [if_neg h]; exact this
theorem amax_inv (c : Nat → Bool) (v : Nat → Int32) : ∀ N, ((amax c v N).1 = -1 ∧ (amax c v N).2 = -1) ∨ ∃ j, j < N ∧ (amax c v N).1 = J j ∧ (amax c v N).2 = v j ∧ c j = true
  | 0 => .inl ⟨rfl, rfl⟩
  | N + 1 => by
    rw [amax_succ]
    have ih := amax_inv c v N
    by_cases h : c N = true
    · rw [if_pos h]
      by_cases h2 : v N ≤ (amax c v N).2
      · rw [if_pos h2]
        rcases ih with h | ⟨j, hj, h⟩
        · exact .inl h
        · exact .inr ⟨j, by omega, h⟩
      · rw [if_neg h2]; exact .inr ⟨N, by omega, rfl, rfl, h⟩
    · rw [if_neg h]
      rcases ih with h | ⟨j, hj, h⟩
      · exact .inl h
      · exact .inr ⟨j, by omega, h⟩
theorem amax_congr {c d : Nat → Bool} {v u : Nat → Int32} {N : Nat} (h : ∀ t, t < N → c t = d t ∧ (c t = true → v t = u t)) : amax c v N = amax d u N := by
  unfold amax
  apply foldN_congr
  intro k a hk
  obtain ⟨h1, h2⟩ := h k hk
  rw [← h1]
  by_cases hc : c k = true
  · rw [h2 hc]
  · simp only [hc, Bool.false_eq_true, ↓reduceIte]
-- checks of the class
theorem lt_J {x : Int32} {k : Nat} (hk : k < 2147483648) : (¬ x < 0 ∧ x < J k) ↔ ix x k := by
  rw [ix_iff, Int32.lt_iff_toInt_lt, Int32.lt_iff_toInt_lt, J_toInt hk, show (0 : Int32).toInt = 0 from by decide]
  omega
theorem chk {x b : Int32} {k : Nat} (hb : b = J k) (hk : k < 2147483648) {α : Type} (A B : α) : (if x < 0 then A else if x < b then B else A) = if ix x k then B else A := by
  subst hb
  by_cases h : ix x k
  · rw [if_pos h, if_neg ((lt_J hk).mpr h).1, if_pos ((lt_J hk).mpr h).2]
  · rw [if_neg h]
    by_cases h1 : x < 0
    · rw [if_pos h1]
    · rw [if_neg h1, if_neg (fun q => h ((lt_J hk).mp ⟨h1, q⟩))]
theorem cPlank (n : Nat) {v0 v : St} {w : Nat → Int32} (hI : WInv w) (hB : HB v w) (x : Int32) : m_X11_checkPlank n v0 v x = if ix x (nP w) then some (Sum.inl ()) else some (Sum.inr 2) := by
  unfold m_X11_checkPlank
  exact chk (hB.p.trans hI.p) (by have := hI.p5; omega) _ _
theorem cHouse (n : Nat) {v0 v : St} {w : Nat → Int32} (hI : WInv w) (hB : HB v w) (x : Int32) : m_X11_checkHouse n v0 v x = if ix x (2 * nP w) then some (Sum.inl ()) else some (Sum.inr 2) := by
  unfold m_X11_checkHouse
  rw [Xhouses hI hB, bd_s]
  exact chk rfl (by have := hI.p5; omega) _ _
theorem cThing (n : Nat) {v0 v : St} {w : Nat → Int32} (hI : WInv w) (hB : HB v w) (x : Int32) : m_X11_checkThing n v0 v x = if ix x (nT w) then some (Sum.inl ()) else some (Sum.inr 2) := by
  unfold m_X11_checkThing
  exact chk (hB.t.trans hI.t) (by have := hI.t10; omega) _ _
theorem cNumber (n : Nat) (x a b : Int32) : m_X11_checkNumber n x a b = if a ≤ x ∧ x ≤ b then some (Sum.inl ()) else some (Sum.inr 0) := by
  unfold m_X11_checkNumber
  by_cases h1 : x < a
  · rw [if_pos h1, if_neg (by grind)]
  · rw [if_neg h1]
    by_cases h2 : x ≤ b
    · rw [if_pos h2, if_pos (by grind)]
    · rw [if_neg h2, if_neg (by grind)]
-- checks of the reference
theorem thr_b {n : Nat} {u : St} {c : Prop} [Decidable c] (k : Int32) : m_X12_throwsIf n u (b2i c) k = if c then some (1, su u 0 0 k) else some (0, u) := by
  by_cases h : c
  · rw [if_pos h, show b2i c = 1 from if_pos h]; rfl
  · rw [if_neg h, show b2i c = 0 from if_neg h]; rfl
theorem refP {n : Nat} {u : St} (hI : WInv (u 1)) (x k : Int32) {α : Type} (K : Int32 × St → Option α) : bd (m_X12_noPlank n u x) (fun t => bd (m_X12_throwsIf n u t k) K) = if ix x (nP (u 1)) then K (0, u) else K (1, su u 0 0 k) := by
  rw [noPlank_s n u x hI.p hI.p5, bd_s, thr_b]
  by_cases h : ix x (nP (u 1))
  · rw [if_pos h, if_neg (fun q => q h), bd_s]
  · rw [if_neg h, if_pos h, bd_s]
theorem refH {n : Nat} {u : St} (hI : WInv (u 1)) (x k : Int32) {α : Type} (K : Int32 × St → Option α) : bd (m_X12_noHouse n u x) (fun t => bd (m_X12_throwsIf n u t k) K) = if ix x (2 * nP (u 1)) then K (0, u) else K (1, su u 0 0 k) := by
  rw [noHouse_s n u x hI.p hI.p5, bd_s, thr_b]
  by_cases h : ix x (2 * nP (u 1))
  · rw [if_pos h, if_neg (fun q => q h), bd_s]
  · rw [if_neg h, if_pos h, bd_s]
theorem refT {n : Nat} {u : St} (hI : WInv (u 1)) (x k : Int32) {α : Type} (K : Int32 × St → Option α) : bd (m_X12_noThing n u x) (fun t => bd (m_X12_throwsIf n u t k) K) = if ix x (nT (u 1)) then K (0, u) else K (1, su u 0 0 k) := by
  rw [noThing_s n u x hI.t hI.t10, bd_s, thr_b]
  by_cases h : ix x (nT (u 1))
  · rw [if_pos h, if_neg (fun q => q h), bd_s]
  · rw [if_neg h, if_pos h, bd_s]
theorem refN {n : Nat} {u : St} (x a b k : Int32) {α : Type} (K : Int32 × St → Option α) : bd (m_X12_in n x a b) (fun t => bd (if t = 0 then some 1 else some 0) (fun t => bd (m_X12_throwsIf n u t k) K)) = if a ≤ x ∧ x ≤ b then K (0, u) else K (1, su u 0 0 k) := by
  rw [in_s, bd_s, nots, bd_s, thr_b]
  by_cases h : a ≤ x ∧ x ≤ b
  · rw [if_pos h, if_neg (fun q => q h), bd_s]
  · rw [if_neg h, if_pos h, bd_s]
/-- a call that asks and may throw: the class's wrapper and the reference's method -/
def QB (S : List Nat) (V : St) (x : Option (Int32 × (Nat → Int64))) (y : Option (Int32 × St)) : Prop :=
  ∃ c out r V', x = some (c, out) ∧ y = some (r, V') ∧ V' 0 0 = c ∧ (c = 0 → out 0 = r.toInt64) ∧ Fr S V V'
theorem QB.thr {S : List Nat} {V : St} {c : Int32} {out : Nat → Int64} {r : Int32} {V' : St} {x : Option (Int32 × (Nat → Int64))} {y : Option (Int32 × St)} (hx : x = some (c, out)) (hy : y = some (r, V')) (h0 : V' 0 0 = c) (hc : c ≠ 0) (hf : Fr S V V') : QB S V x y := ⟨c, out, r, V', hx, hy, h0, fun q => absurd q hc, hf⟩
theorem QB.ret {S : List Nat} {V : St} {out : Nat → Int64} {r : Int32} {V' : St} {x : Option (Int32 × (Nat → Int64))} {y : Option (Int32 × St)} (hx : x = some (0, vp_updL out 0 r.toInt64)) (hy : y = some (r, V')) (h0 : V' 0 0 = 0) (hf : Fr S V V') : QB S V x y := ⟨0, _, r, V', hx, hy, h0, fun _ => by unfold vp_updL; rw [if_pos rfl], hf⟩
theorem su00 (V : St) (x : Int32) : su V 0 0 x 0 0 = x := by rw [su_e, upd_e]
theorem su01 (V : St) (x : Int32) : su V 0 0 x 1 = V 1 := su_n _ _ _ _ (by decide)
theorem su0su (V : St) (x y : Int32) : su (su V 0 0 x) 0 0 y = su V 0 0 y := by
  funext f
  by_cases h : f = 0
  · subst h; rw [su_e, su_e, su_e]; funext k; simp only [upd]; by_cases h : k = 0 <;> simp [h]
  · rw [su_n _ _ _ _ h, su_n _ _ _ _ h, su_n _ _ _ _ h]
end PGLUE
