section PSUM
theorem J_ne_lt {x : Int32} (hx : x < 0) {k : Nat} (h : k < 2147483648) : ¬ J k = x := fun e => J_nn h (e ▸ hx)
theorem sgn_a {o : Nat} (h : o ≠ 8) (a : Int32) : sgn o a = sgn o 0 := by
  unfold sgn; simp only [h, ↓reduceIte]
/-- one step of the class's walk over a condition -/
def cstep (n : Nat) (L v : St) (c s h : Int32) : Option (Int32 × St) :=
  jn (fun (_ : Unit) =>
  bd (m_X5_joins n s) (fun t8 =>
  jn (fun (_ : Unit) =>
  (if 64 ≤ c then
  some (c, L)
  else
  bd ((if s < 0 then
  bd (m_X3_fact n v (-s) h) (fun t13 =>
  some t13)
  else
  some s)) (fun (t10 : Int32) =>
  (if ix c 64 then nm (su L 6 (c).toNatClampNeg t10) (fun u12 =>
  some ((c + 1), u12)) else none)))) (fun (K9 : Unit → Option (Int32 × St)) =>
  (if t8 = 0 then
  K9 ()
  else
  (if c ≤ 1 then
  K9 ()
  else
  (if ix ((c + (-1)) - 1) 64 then (if ix (c + (-1)) 64 then bd (m_X5_joined n s (L 6 (((c + (-1)) - 1)).toNatClampNeg) (L 6 ((c + (-1))).toNatClampNeg)) (fun t16 =>
  (if ix ((c + (-1)) - 1) 64 then nm (su L 6 (((c + (-1)) - 1)).toNatClampNeg t16) (fun u18 =>
  some ((c + (-1)), u18)) else none)) else none) else none)))))) (fun (K7 : Unit → Option (Int32 × St)) =>
  (if s = (-317) then
  (if c ≤ 0 then
  K7 ()
  else
  (if ix (c - 1) 64 then (if ix (c - 1) 64 then nm (su L 6 ((c - 1)).toNatClampNeg (1 - (L 6 ((c - 1)).toNatClampNeg))) (fun u21 =>
  some (c, u21)) else none) else none))
  else
  K7 ()))
theorem joins_nn (n : Nat) {k : Nat} (h : k < 2147483648) : m_X5_joins n (J k) = some 0 := by
  unfold m_X5_joins
  simp only [jn_s]
  rw [if_neg (J_ne_lt (by decide) h), if_neg (J_ne_lt (by decide) h), if_neg (J_ne_lt (by decide) h), if_neg (J_ne_lt (by decide) h), if_neg (J_ne_lt (by decide) h)]
theorem cstep_push {n : Nat} {L v : St} {s h x : Int32} {c : Nat} (hc : c < 64) (h1 : ¬ s = -317) (h2 : m_X5_joins n s = some 0) (hf : (if s < 0 then bd (m_X3_fact n v (-s) h) (fun t13 => some t13) else some s) = some x) : cstep n L v (J c) s h = some (J (c + 1), su L 6 c x) := by
  unfold cstep
  simp only [jn_s]
  rw [if_neg h1, h2, bd_s, if_pos rfl, if_neg (by rw [show (64 : Int32) = J 64 from rfl, J_le (by omega) (by omega)]; omega), hf, bd_s, if_pos (J_ix hc (by omega)), J_nat (by omega), nm_s, J_succ]
theorem cstep_not {n : Nat} {L v : St} {h : Int32} {c : Nat} (hc : c < 64) : cstep n L v (J (c + 1)) (-317) h = some (J (c + 1), su L 6 c (1 - L 6 c)) := by
  unfold cstep
  simp only [jn_s]
  rw [if_pos trivial, if_neg (by rw [show (0 : Int32) = J 0 from rfl, J_le (by omega) (by omega)]; omega), J_pred (by omega), Nat.add_sub_cancel, if_pos (J_ix hc (by omega)), if_pos (J_ix hc (by omega)), J_nat (by omega), nm_s]
theorem joins_bin (n : Nat) {o : Nat} (ho : o = 9 ∨ o = 10 ∨ o = 11 ∨ o = 13 ∨ o = 14) (a : Int32) : m_X5_joins n (sgn o a) = some 1 := by
  rcases ho with rfl | rfl | rfl | rfl | rfl <;> rfl
theorem joined_bin (n : Nat) {o : Nat} (ho : o = 9 ∨ o = 10 ∨ o = 11 ∨ o = 13 ∨ o = 14) (a x y : Int32) : m_X5_joined n (sgn o a) x y = some (binS o x y) := by
  unfold m_X5_joined binS
  rcases ho with rfl | rfl | rfl | rfl | rfl
  · rfl
  · show (if y ≤ x then some 0 else some 1) = some (if y ≤ x then (0 : Int32) else 1)
    split <;> rfl
  · show (if x ≤ y then some 0 else some 1) = some (if x ≤ y then (0 : Int32) else 1)
    split <;> rfl
  · rfl
  · rfl
theorem cstep_bin {n : Nat} {L v : St} {o : Nat} (ho : o = 9 ∨ o = 10 ∨ o = 11 ∨ o = 13 ∨ o = 14) {a h : Int32} {c : Nat} (hc : c + 1 < 64) : cstep n L v (J (c + 2)) (sgn o a) h = some (J (c + 1), su L 6 c (binS o (L 6 c) (L 6 (c + 1)))) := by
  unfold cstep
  have e1 : J (c + 2) + (-1) = J (c + 1) := J_neg1 (c + 2) (by omega)
  have e2 : J (c + 1) - 1 = J c := J_pred (k := c + 1) (by omega)
  have e3 : ¬ sgn o a = -317 := by
    rw [sgn_a (by omega)]
    rcases ho with rfl | rfl | rfl | rfl | rfl <;> decide
  have e4 : ¬ J (c + 2) ≤ 1 := by rw [show (1 : Int32) = J 1 from rfl, J_le (by omega) (by omega)]; omega
  simp only [jn_s, joins_bin n ho, bd_s, e3, e4, show ¬ ((1 : Int32) = 0) from by decide, if_false, e1, e2, J_nat (k := c) (show c < 2147483648 by omega), J_nat (k := c + 1) (show c + 1 < 2147483648 by omega), nm_s, ix_J (k := c) (n := 64) (by omega) (by omega), ix_J (k := c + 1) (n := 64) (by omega) (by omega), if_true, joined_bin n ho]
theorem cstep_ok {n : Nat} {L v : St} {w : Nat → Int32} {h : Nat} (hF : HF v w h) (hh : h < 10) {o : Nat} (ho : o ≤ 14) {a : Int32} (ha : o = 8 → inB a 0 999) {ts ts' : List Bool} {st : List Int32} (t1 : tyS o ts = some ts') (h64' : ts.length ≤ 64) (h64 : ts'.length ≤ 64) (ht : Tyd ts st) (hs : Stk (L 6) st) :
    Ok (cstep n L v (J st.length) (sgn o a) (J h)) (fun t => t.1 = J (opS (factS w h) o a st).length ∧ Stk (t.2 6) (opS (factS w h) o a st) ∧ Fr [6] L t.2) := by
  have hlen := ht.len
  have hlen' := (ty_step (F := factS w h) (a := a) (factS_b _ _) t1 ht).len
  by_cases h8 : o ≤ 8
  · rw [opS_push _ h8] at hlen' ⊢
    simp only [List.length_cons] at hlen'
    have key : cstep n L v (J st.length) (sgn o a) (J h) = some (J (st.length + 1), su L 6 st.length (if o = 8 then a else factS w h o)) := by
      by_cases q : o = 8
      · subst q
        obtain ⟨k, rfl, -, hk⟩ := ha rfl
        exact cstep_push (by omega) (J_ne_lt (by decide) (by omega)) (joins_nn n (by omega)) (by rw [show sgn 8 (J k) = J k from rfl, if_neg (J_nn (by omega))]; rfl)
      · have hx := Xfact n hF hh (o := o) (by omega) a
        rw [if_neg q]
        refine cstep_push (by omega) ?_ ?_ ?_
        · rw [sgn_a q]; rcases (by omega : o = 0 ∨ o = 1 ∨ o = 2 ∨ o = 3 ∨ o = 4 ∨ o = 5 ∨ o = 6 ∨ o = 7) with rfl | rfl | rfl | rfl | rfl | rfl | rfl | rfl <;> decide
        · rcases (by omega : o = 0 ∨ o = 1 ∨ o = 2 ∨ o = 3 ∨ o = 4 ∨ o = 5 ∨ o = 6 ∨ o = 7) with rfl | rfl | rfl | rfl | rfl | rfl | rfl | rfl <;> rfl
        · rw [if_pos ?_, hx, bd_s]
          rw [sgn_a q]; rcases (by omega : o = 0 ∨ o = 1 ∨ o = 2 ∨ o = 3 ∨ o = 4 ∨ o = 5 ∨ o = 6 ∨ o = 7) with rfl | rfl | rfl | rfl | rfl | rfl | rfl | rfl <;> decide
    rw [key]
    refine ok_some ⟨rfl, ?_, (Fr.rfl _ _).put (by simp) _ _⟩
    dsimp only; rw [su_e]; exact Stk.push hs _
  by_cases h12 : o = 12
  · subst h12
    match ts, st, ht with
    | [], [], _ => simp [tyS] at t1
    | y :: r, b :: s, ht =>
      have e : opS (factS w h) 12 a (b :: s) = (1 - b) :: s := rfl
      rw [e] at hlen' ⊢
      simp only [List.length_cons] at hlen hlen'
      rw [List.length_cons, show sgn 12 a = -317 from rfl, cstep_not (by omega)]
      refine ok_some ⟨rfl, ?_, (Fr.rfl _ _).put (by simp) _ _⟩
      dsimp only
      rw [su_e, hs.1]; exact Stk.push hs.2 _
  · obtain ⟨y, x, r, rfl, hb, ho'⟩ := tyS_bin (by omega) h12 t1
    match st, ht with
    | b :: c :: s, ht =>
      have e1 : L 6 s.length = c := hs.2.1
      have e2 : L 6 (s.length + 1) = b := hs.1
      simp only [List.length_cons] at hlen h64'
      rw [List.length_cons, List.length_cons, cstep_bin ho' (by omega), e1, e2, opS_bin _ (by omega) h12]
      refine ok_some ⟨rfl, ?_, (Fr.rfl _ _).put (by simp) _ _⟩
      dsimp only; rw [su_e]; exact Stk.push hs.2.2 _
/-- the law as the class holds it -/
def nL (w : Nat → Int32) : Nat := (w 382).toNatClampNeg
def kindC (k : Int32) : Int32 := if k = 0 then 312 else if k = 1 then 313 else 311
def frS (w : Nat → Int32) : Nat → Nat
  | 0 => 0
  | l + 1 => lt w l
/-- what holds of a law, in the row alone -/
def LW (w : Nat → Int32) : Prop := w 382 = J (nL w) ∧ nL w ≤ 12 ∧ ∀ l, l < nL w → LL w l ∧ lf w l = frS w l ∧ (w (383 + 4 * l) = 0 ∨ w (383 + 4 * l) = 1 ∨ w (383 + 4 * l) = 2)
def LR (L : St) (w : Nat → Int32) : Prop :=
  (w 3 = 0 ∧ L 0 0 = -1) ∨
  (w 3 = 1 ∧ LW w ∧ L 0 0 = J (nL w) ∧ ∀ l, l < nL w → L 1 l = kindC (w (383 + 4 * l)) ∧ L 2 l = w (384 + 4 * l) ∧ L 3 l = J (lt w l) ∧ ∀ i, lf w l ≤ i → i < lt w l → L 4 i = sgn (lg w i) (la w i))
theorem LR.fr {L L' : St} {w : Nat → Int32} (h : LR L w) (k : Fr [6] L L') : LR L' w := by
  unfold LR at h ⊢
  rw [k 0 (by simp), k 1 (by simp), k 2 (by simp), k 3 (by simp), k 4 (by simp)]
  exact h
theorem Xholds {n : Nat} (hn : 5000 < n) {L v : St} {w : Nat → Int32} {h : Nat} (hF : HF v w h) (hh : h < 10) {l : Nat} (hL : LL w l) (hS : ∀ i, lf w l ≤ i → i < lt w l → L 4 i = sgn (lg w i) (la w i)) :
    Ok (m_X5_holds n L v (J (lf w l)) (J (lt w l)) (J h)) (fun r => Fr [6] L r.2 ∧ r.1 = b2 (holdS w h l)) := by
  obtain ⟨-, -, hft, h400, -, hty, hop⟩ := hL
  unfold m_X5_holds
  refine ok_bd2 (P := fun t => Fr [6] L t.2 ∧ t.1 = J (evS (factS w h) (lg w) (la w) (lf w l) (lt w l - lf w l) []).length ∧ Stk (t.2 6) (evS (factS w h) (lg w) (la w) (lf w l) (lt w l - lf w l) [])) ?_ ?_
  · refine ok_lp (μ := fun x => lt w l - x.2.1.toNatClampNeg) (I := fun x => ∃ (i d : Nat) (ts fin : List Bool) (st : List Int32), x.1 = J st.length ∧ x.2.1 = J i ∧ i + d = lt w l ∧ lf w l ≤ i ∧ tyR (lg w) i d ts = some fin ∧ Tyd ts st ∧ ts.length ≤ 64 ∧ Stk (x.2.2 6) st ∧ Fr [6] L x.2.2 ∧ evS (factS w h) (lg w) (la w) i d st = evS (factS w h) (lg w) (la w) (lf w l) (lt w l - lf w l) []) ?_ n _ ?_ ?_
    · rintro rc ⟨c, j, L'⟩ ⟨i, d, ts, fin, st, hc, hj, hid, hfi, hr, ht, h64, hs, hf, he⟩ ih
      dsimp only at hc hj hs hf
      subst hc hj
      have hlen := ht.len
      cases d with
      | zero =>
        simp only [J_le (a := lt w l) (b := i) (by omega) (by omega), show lt w l ≤ i from by omega, ↓reduceIte]
        refine ok_some ⟨hf, ?_, ?_⟩
        · rw [← he]; rfl
        · rw [← he]; exact hs
      | succ d =>
        obtain ⟨ho1, ho2, ho3⟩ := hop i hfi (by omega)
        obtain ⟨ts', t1, t2, t3⟩ := tyR_step hr
        have hT := ty_step (F := factS w h) (a := la w i) (factS_b _ _) t1 ht
        have hlen' := hT.len
        have key := cstep_ok (n := n) (L := L') hF hh ho2 ho3 t1 h64 t2 ht hs
        have e4 : L' 4 i = sgn (lg w i) (la w i) := by rw [hf 4 (by simp)]; exact hS i hfi (by omega)
        simp only [J_le (a := lt w l) (b := i) (by omega) (by omega), show ¬ lt w l ≤ i from by omega, ix_J (k := i) (n := 400) (by omega) (by omega), J_nat (k := i) (by omega), e4, ↓reduceIte, nm_s]
        simp only [cstep, nm_s] at key
        refine ok_bd2 key ?_
        rintro ⟨c, V2⟩ ⟨q1, q2, q3⟩
        dsimp only at q1 q2 q3 ⊢
        rw [J_succ]
        refine ih _ ⟨i + 1, d, ts', fin, _, q1, rfl, by omega, by omega, t3, hT, t2, q2, hf.tr q3, he⟩ ?_
        show lt w l - (J (i + 1)).toNatClampNeg < lt w l - (J i).toNatClampNeg
        rw [J_nat (by omega), J_nat (by omega)]; omega
    · rcases hty with q | q
      · exact ⟨lf w l, lt w l - lf w l, [], [], [], rfl, rfl, by omega, Nat.le_refl _, q, trivial, by simp, trivial, Fr.rfl _ _, rfl⟩
      · exact ⟨lf w l, lt w l - lf w l, [], [true], [], rfl, rfl, by omega, Nat.le_refl _, q, trivial, by simp, trivial, Fr.rfl _ _, rfl⟩
    · show lt w l - (J (lf w l)).toNatClampNeg < n
      rw [J_nat (by omega)]; omega
  · rintro ⟨c, V2⟩ ⟨q1, q2, q3⟩
    dsimp only at q1 q2 q3 ⊢
    simp only [jn_s]
    have hq := hold_fin (a := la w) (factS_b w h) hty
    unfold holdS
    revert hq q2 q3
    generalize evS (factS w h) (lg w) (la w) (lf w l) (lt w l - lf w l) [] = r
    intro q2 q3 hq
    rcases hq with rfl | rfl | rfl
    · refine ok_gd (c := c = 0) (by rw [q2]; rfl) (ok_some ⟨q1, ?_⟩)
      rw [decide_eq_true (.inl rfl)]; rfl
    · have e0 : V2 6 0 = 0 := q3.1
      refine ok_ng (c := c = 0) (by rw [q2]; exact (by decide : ¬ (J 1 = 0))) (ok_gd (by rw [e0]) (ok_some ⟨q1, ?_⟩))
      rw [decide_eq_false (by simp)]; rfl
    · have e0 : V2 6 0 = 1 := q3.1
      refine ok_ng (c := c = 0) (by rw [q2]; exact (by decide : ¬ (J 1 = 0))) (ok_ng (by rw [e0]; decide) (ok_some ⟨q1, ?_⟩))
      rw [decide_eq_true (.inr rfl)]; rfl
/-- the sum of all lines of a kind that hold of a house -/
def sumS (w : Nat → Int32) (k : Int32) (h : Nat) : Int32 :=
  if w 3 = 1 then foldN (fun l a => if w (383 + 4 * l) = k then (if holdS w h l then a + w (384 + 4 * l) else a) else a) 0 (nL w) else 0
theorem b2_0 (b : Bool) : b2 b = 0 ↔ b = false := by cases b <;> decide
/-- a law in the row, or none -/
def LWo (w : Nat → Int32) : Prop := w 3 = 0 ∨ (w 3 = 1 ∧ LW w)
theorem LR.o {L : St} {w : Nat → Int32} (h : LR L w) : LWo w := by
  rcases h with h | h
  · exact .inl h.1
  · exact .inr ⟨h.1, h.2.1⟩
theorem sumOf_ok {n : Nat} (hn : 5000 < n) (V : St) (hI : WInv (V 1)) (hL : LWo (V 1)) {h : Nat} (hh : h < 2 * nP (V 1)) (k : Int32) :
    Ok (m_X12_sumOf n V k (J h)) (fun r => Fr [17] V r.2 ∧ r.1 = sumS (V 1) k h) := by
  unfold m_X12_sumOf sumS
  rcases hL with h0 | ⟨h1, hl0, hl12, hl⟩
  · refine ok_bd2 (P := fun r => r = (0, V)) ?_ ?_
    · obtain ⟨m, rfl⟩ : ∃ m, n = m + 1 := ⟨n - 1, by omega⟩
      show Ok (if V 1 3 = 1 then _ else some (0, V)) _
      rw [if_neg (by rw [h0]; decide)]
      exact ok_some rfl
    · rintro r rfl
      refine ok_some ⟨Fr.rfl _ _, ?_⟩
      rw [if_neg (by rw [h0]; decide)]
  · rw [if_pos h1]
    refine ok_bd2 (P := fun r => Fr [17] V r.2 ∧ r.1 = foldN (fun l a => if V 1 (383 + 4 * l) = k then (if holdS (V 1) h l then a + V 1 (384 + 4 * l) else a) else a) 0 (nL (V 1))) ?_ (fun r hr => ok_some hr)
    refine ok_forE (fun l (x : Int32 × St) => (x.1, J l, x.2)) (nL (V 1)) (fun l x => Fr [17] V x.2 ∧ x.1 = foldN (fun l a => if V 1 (383 + 4 * l) = k then (if holdS (V 1) h l then a + V 1 (384 + 4 * l) else a) else a) 0 l) ?_ ?_ (by omega) (0, V) rfl ⟨Fr.rfl _ _, rfl⟩
    · rintro rc l ⟨a, V'⟩ hlt ⟨hf, ha⟩ ih
      dsimp only at hf ha
      subst ha
      have hV : V' 1 = V 1 := hf 1 (by simp)
      have hLL := (hl l hlt).1
      simp only [hV, h1, hl0, J_le (a := nL (V 1)) (b := l) (by omega) (by omega), Nat.not_le.mpr hlt, lineAt, lineAt1, ix_J (k := 383 + 4 * l) (n := 2080) (by omega) (by omega), J_nat (k := 383 + 4 * l) (by omega), ix_J (k := 384 + 4 * l) (n := 2080) (by omega) (by omega), J_nat (k := 384 + 4 * l) (by omega), ↓reduceIte, J_succ l]
      by_cases hk : V 1 (383 + 4 * l) = k
      · rw [if_pos hk]
        have hq := holdsLine_ok hn V' (by rw [hV]; exact hI) (h := h) (by rw [hV]; exact hh) (l := l) (by omega) (by rw [hV]; exact hLL)
        rw [hV] at hq
        refine ok_bd (ok_bd2 hq ?_)
        rintro ⟨r, V2⟩ ⟨q1, q2⟩
        dsimp only at q1 q2
        subst q2
        dsimp only
        have hV2 : V2 1 = V 1 := (q1 1 (by simp)).trans hV
        by_cases hb : holdS (V 1) h l = true
        · rw [if_neg (by rw [b2_0, hb]; simp), nm_s]
          refine ok_some (ih ((_, V2)) ⟨hf.tr q1, ?_⟩)
          simp only [foldN, hk, hb, ↓reduceIte, hV2]
        · rw [if_pos (by rw [b2_0]; simpa using hb)]
          refine ok_some (ih ((_, V2)) ⟨hf.tr q1, ?_⟩)
          simp only [foldN, hk, hb, ↓reduceIte, Bool.false_eq_true]
      · rw [if_neg hk, bd_s]
        refine ih ((_, V')) ⟨hf, ?_⟩
        simp only [foldN, hk, ↓reduceIte]
    · rintro rc ⟨a, V'⟩ ⟨hf, ha⟩
      dsimp only at hf ha
      have hV : V' 1 = V 1 := hf 1 (by simp)
      simp only [hV, h1, hl0, J_le (a := nL (V 1)) (b := nL (V 1)) (by omega) (by omega), Nat.le_refl, ↓reduceIte]
      exact ok_some ⟨hf, ha⟩
theorem kind_iff {x k : Int32} (hx : x = 0 ∨ x = 1 ∨ x = 2) (hk : k = 0 ∨ k = 1 ∨ k = 2) : kindC x = kindC k ↔ x = k := by
  rcases hx with rfl | rfl | rfl <;> rcases hk with rfl | rfl | rfl <;> decide
theorem Xsum {n : Nat} (hn : 5000 < n) {L v : St} {w : Nat → Int32} (hL : LR L w) {h : Nat} (hF : HF v w h) (hh : h < 10) {k : Int32} (hk : k = 0 ∨ k = 1 ∨ k = 2) :
    Ok (m_X5_sumOf n L v (kindC k) (J h)) (fun r => Fr [6] L r.2 ∧ r.1 = sumS w k h) := by
  unfold m_X5_sumOf sumS
  rcases hL with ⟨h0, hm⟩ | ⟨h1, ⟨hl0, hl12, hl⟩, hc, hS⟩
  · obtain ⟨m, rfl⟩ : ∃ m, n = m + 1 := ⟨n - 1, by omega⟩
    rw [if_neg (show ¬ w 3 = 1 by rw [h0]; decide)]
    show Ok (if L 0 0 ≤ 0 then some (0, L) else _) _
    rw [if_pos (show L 0 0 ≤ 0 by rw [hm]; decide)]
    exact ok_some ⟨Fr.rfl _ _, rfl⟩
  · rw [if_pos h1]
    refine ok_forE (fun l (x : Int32 × St) => (x.1, J (frS w l), J l, x.2)) (nL w) (fun l x => Fr [6] L x.2 ∧ x.1 = foldN (fun l a => if w (383 + 4 * l) = k then (if holdS w h l then a + w (384 + 4 * l) else a) else a) 0 l) ?_ ?_ (by omega) (0, L) rfl ⟨Fr.rfl _ _, rfl⟩
    · rintro rc l ⟨a, L'⟩ hlt ⟨hf, ha⟩ ih
      dsimp only at hf ha
      subst ha
      obtain ⟨hLL, hfr, hki⟩ := hl l hlt
      obtain ⟨s1, s2, s3, s4⟩ := hS l hlt
      have f0 : L' 0 = L 0 := hf 0 (by simp)
      have f1 : L' 1 = L 1 := hf 1 (by simp)
      have f3 : L' 3 = L 3 := hf 3 (by simp)
      simp only [f0, f1, f3, hc, J_le (a := nL w) (b := l) (by omega) (by omega), Nat.not_le.mpr hlt, ix_J (k := l) (n := 12) (by omega) (by omega), J_nat (k := l) (by omega), ↓reduceIte, J_succ l, nm_s, s3, s1, kind_iff hki hk]
      by_cases hk : w (383 + 4 * l) = k
      · rw [if_pos hk]
        have hq := Xholds hn (L := L') hF hh hLL (fun i h1 h2 => by rw [hf 4 (by simp)]; exact s4 i h1 h2)
        rw [hfr] at hq
        refine ok_bd (ok_bd2 hq ?_)
        rintro ⟨r, V2⟩ ⟨q1, q2⟩
        dsimp only at q1 q2
        subst q2
        dsimp only
        have f2 : V2 2 = L 2 := ((hf.tr q1) 2 (by simp))
        by_cases hb : holdS w h l = true
        · rw [if_neg (by rw [b2_0, hb]; simp)]
          refine ok_some (ih ((_, V2)) ⟨hf.tr q1, ?_⟩)
          simp only [foldN, hk, hb, ↓reduceIte, f2, s2]
        · rw [if_pos (by rw [b2_0]; simpa using hb)]
          refine ok_some (ih ((_, V2)) ⟨hf.tr q1, ?_⟩)
          simp only [foldN, hk, hb, ↓reduceIte, Bool.false_eq_true]
      · rw [if_neg hk, bd_s]
        refine ih ((_, L')) ⟨hf, ?_⟩
        simp only [foldN, hk, ↓reduceIte]
    · rintro rc ⟨a, L'⟩ ⟨hf, ha⟩
      dsimp only at hf ha
      have f0 : L' 0 = L 0 := hf 0 (by simp)
      simp only [f0, hc, J_le (a := nL w) (b := nL w) (by omega) (by omega), Nat.le_refl, ↓reduceIte]
      exact ok_some ⟨hf, ha⟩
-- what it pays, lures by, ages by
def paysS (w : Nat → Int32) (h : Nat) : Int32 := w 9 * heightS w h + sumS w 0 h
def luresS (w : Nat → Int32) (h : Nat) : Int32 := woI w (J h) + sumS w 1 h
def agesS (w : Nat → Int32) (p : Nat) : Int32 := 1 + sumS w 2 (2 * p)
theorem paysBy_ok {n : Nat} (hn : 5000 < n) (V : St) (hI : WInv (V 1)) (hL : LWo (V 1)) {h : Nat} (hh : h < 2 * nP (V 1)) : Ok (m_X12_paysBy n V (J h)) (fun r => Fr [17] V r.2 ∧ r.1 = paysS (V 1) h) := by
  have := hI.p5
  unfold m_X12_paysBy
  rw [heightOf_s hn V hI (by omega), bd_s]
  exact ok_bd2 (sumOf_ok hn V hI hL hh 0) (fun r hr => ok_some ⟨hr.1, by dsimp only; rw [hr.2]; rfl⟩)
theorem luresBy_ok {n : Nat} (hn : 5000 < n) (V : St) (hI : WInv (V 1)) (hL : LWo (V 1)) {h : Nat} (hh : h < 2 * nP (V 1)) : Ok (m_X12_luresBy n V (J h)) (fun r => Fr [17] V r.2 ∧ r.1 = luresS (V 1) h) := by
  have := hI.p5
  unfold m_X12_luresBy
  rw [thingsIn_s hn V _ hI.t hI.t10, bd_s, worthOf_s hn V _ hI.t hI.t10, bd_s, woS_in _ _ hI.t10]
  exact ok_bd2 (sumOf_ok hn V hI hL hh 1) (fun r hr => ok_some ⟨hr.1, by dsimp only; rw [hr.2]; rfl⟩)
theorem agesBy_ok {n : Nat} (hn : 5000 < n) (V : St) (hI : WInv (V 1)) (hL : LWo (V 1)) {p : Nat} (hp : p < nP (V 1)) : Ok (m_X12_agesBy n V (J p)) (fun r => Fr [17] V r.2 ∧ r.1 = agesS (V 1) p) := by
  have := hI.p5
  unfold m_X12_agesBy
  rw [J_dbl]
  exact ok_bd2 (sumOf_ok hn V hI hL (h := 2 * p) (by omega) 2) (fun r hr => ok_some ⟨hr.1, by dsimp only; rw [hr.2]; rfl⟩)
theorem HR.hf {v : St} {w : Nat → Int32} (h : HR v w) {q : Nat} (hq : q < 2 * nP w) : HF v w q :=
  ⟨(h.2.2 q hq).2, (h.2.2 q hq).1, h.2.1.guests hq, h.2.1.age (by omega), h.2.1.week⟩
/-- the class, one house alone -/
theorem XpaysBy1 {n : Nat} (hn : 5000 < n) {L v : St} {w : Nat → Int32} (hL : LR L w) {h : Nat} (hF : HF v w h) (hfee : v 6 0 = w 9) (hh : h < 10) : Ok (m_X3_paysBy n v L (J h)) (fun r => Fr [6] L r.2 ∧ r.1 = paysS w h) := by
  unfold m_X3_paysBy
  rw [if_pos (J_ix hh (by omega)), J_nat (by omega), hfee, hF.1]
  exact ok_bd2 (Xsum hn hL hF hh (k := 0) (.inl rfl)) (fun r hr => ok_some ⟨hr.1, by dsimp only; rw [hr.2]; rfl⟩)
theorem XagesBy1 {n : Nat} (hn : 5000 < n) {L v : St} {w : Nat → Int32} (hL : LR L w) {p : Nat} (hF : HF v w (2 * p)) (hp : p < 5) : Ok (m_X3_agesBy n v L (J p)) (fun r => Fr [6] L r.2 ∧ r.1 = agesS w p) := by
  unfold m_X3_agesBy
  rw [J_dbl]
  exact ok_bd2 (Xsum hn hL hF (by omega) (k := 2) (.inr (.inr rfl))) (fun r hr => ok_some ⟨hr.1, by dsimp only; rw [hr.2]; rfl⟩)
theorem XluresBy {n : Nat} (hn : 5000 < n) {L v : St} {w : Nat → Int32} (hL : LR L w) (hR : HR v w) {h : Nat} (hh : h < 2 * nP w) : Ok (m_X3_luresBy n v L (J h)) (fun r => Fr [6] L r.2 ∧ r.1 = luresS w h) := by
  have := hR.1.p5
  unfold m_X3_luresBy
  refine ok_bd2 (Xsum hn hL (hR.hf hh) (by omega) (k := 1) (.inr (.inl rfl))) (fun r hr => ?_)
  rw [XworthIn hn hR.1 hR.2.1, bd_s]
  refine ok_some ⟨hr.1, ?_⟩
  dsimp only; rw [hr.2]; unfold luresS; grind
end PSUM
