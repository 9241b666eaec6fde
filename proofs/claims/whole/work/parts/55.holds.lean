section PHOLDS
theorem J_pred {k : Nat} (h : 0 < k) : J k - 1 = J (k - 1) := J_sub (b := 1) h
theorem lineAt (l : Nat) : 383 + 4 * J l = J (383 + 4 * l) := by
  show J 383 + J 4 * J l = _
  rw [J_mul, J_add]
theorem lineAt1 (l : Nat) : J (383 + 4 * l) + 1 = J (384 + 4 * l) := by
  show J (383 + 4 * l) + J 1 = _
  rw [J_add]; congr 1; omega
theorem lineAt2 (l : Nat) : J (383 + 4 * l) + 2 = J (385 + 4 * l) := by
  show J (383 + 4 * l) + J 2 = _
  rw [J_add]; congr 1; omega
theorem lineAt3 (l : Nat) : J (383 + 4 * l) + 3 = J (386 + 4 * l) := by
  show J (383 + 4 * l) + J 3 = _
  rw [J_add]; congr 1; omega
theorem stepAt (l : Nat) : 431 + 2 * J l = J (431 + 2 * l) := by
  show J 431 + J 2 * J l = _
  rw [J_mul, J_add]
theorem stepAt1 (l : Nat) : J (431 + 2 * l) + 1 = J (432 + 2 * l) := by
  show J (431 + 2 * l) + J 1 = _
  rw [J_add]; congr 1; omega
def lg (w : Nat → Int32) (i : Nat) : Nat := (w (431 + 2 * i)).toNatClampNeg
def la (w : Nat → Int32) (i : Nat) : Int32 := w (432 + 2 * i)
def lf (w : Nat → Int32) (l : Nat) : Nat := (w (385 + 4 * l)).toNatClampNeg
def lt (w : Nat → Int32) (l : Nat) : Nat := (w (386 + 4 * l)).toNatClampNeg
/-- a line of the law is well made -/
def LL (w : Nat → Int32) (l : Nat) : Prop :=
  w (385 + 4 * l) = J (lf w l) ∧ w (386 + 4 * l) = J (lt w l) ∧ lf w l ≤ lt w l ∧ lt w l ≤ 400 ∧ inB (w (384 + 4 * l)) 0 60 ∧
  (tyR (lg w) (lf w l) (lt w l - lf w l) [] = some [] ∨ tyR (lg w) (lf w l) (lt w l - lf w l) [] = some [true]) ∧
  ∀ i, lf w l ≤ i → i < lt w l → w (431 + 2 * i) = J (lg w i) ∧ lg w i ≤ 14 ∧ (lg w i = 8 → inB (la w i) 0 999)
theorem tyd_fin {F : Nat → Int32} (hF : ∀ o, 6 ≤ o → isb (F o)) {g : Nat → Nat} {a : Nat → Int32} : ∀ {d i : Nat} {ts fin : List Bool} {st : List Int32}, tyR g i d ts = some fin → Tyd ts st → Tyd fin (evS F g a i d st)
  | 0, i, ts, fin, st, h, ht => by
    unfold tyR at h; cases h; exact ht
  | d + 1, i, ts, fin, st, h, ht => by
    obtain ⟨ts', h1, _, h3⟩ := tyR_step h
    show Tyd fin (evS F g a (i + 1) d (opS F (g i) (a i) st))
    exact tyd_fin hF h3 (ty_step hF h1 ht)
theorem and_2 {x y : Int32} (hx : isb x) (hy : isb y) : (if (if x + y = 2 then (1 : Int32) else 0) = 0 then (0 : Int32) else 1) = x &&& y := by
  rcases hx with rfl | rfl <;> rcases hy with rfl | rfl <;> decide
theorem or_2 {x y : Int32} (hx : isb x) (hy : isb y) : (if (if x + y ≤ 0 then (0 : Int32) else 1) = 0 then (0 : Int32) else 1) = x ||| y := by
  rcases hx with rfl | rfl <;> rcases hy with rfl | rfl <;> decide
/-- one step of the reference's walk over a condition -/
def rstep (n : Nat) (V : St) (c o a h : Int32) : Option (Int32 × St) :=
  (if 8 < o then
  (if o = 12 then
  (if ix (c - 1) 400 then (if ix (c - 1) 400 then nm (su V 17 ((c - 1)).toNatClampNeg (1 - (V 17 ((c - 1)).toNatClampNeg))) (fun u21 =>
  some (c, u21)) else none) else none)
  else
  (if ix ((c + (-1)) - 1) 400 then nm (V 17 (((c + (-1)) - 1)).toNatClampNeg) (fun x7_12 =>
  (if ix (c + (-1)) 400 then nm (V 17 ((c + (-1))).toNatClampNeg) (fun x8_14 =>
  bd ((if o = 10 then
  (if x8_14 ≤ x7_12 then
  some 0
  else
  some 1)
  else
  (if o = 11 then
  (if x7_12 ≤ x8_14 then
  some 0
  else
  some 1)
  else
  (if o = 13 then
  (if (x7_12 + x8_14) = 2 then
  some 1
  else
  some 0)
  else
  (if (x7_12 + x8_14) ≤ 0 then
  some 0
  else
  some 1))))) (fun (t15 : Int32) =>
  bd ((if o = 9 then
  some (x7_12 + x8_14)
  else
  (if t15 = 0 then
  some 0
  else
  some 1))) (fun (t16 : Int32) =>
  (if ix ((c + (-1)) - 1) 400 then nm (su V 17 (((c + (-1)) - 1)).toNatClampNeg t16) (fun u18 =>
  some ((c + (-1)), u18)) else none)))) else none)) else none))
  else
  bd (m_X12_factOf n V o a h) (fun t23 =>
  (if ix c 400 then nm (su V 17 (c).toNatClampNeg t23) (fun u25 =>
  some ((c + 1), u25)) else none)))
theorem opS_push (F : Nat → Int32) {o : Nat} (ho : o ≤ 8) (a : Int32) (st : List Int32) : opS F o a st = (if o = 8 then a else F o) :: st := by
  unfold opS
  by_cases q : o = 8
  · rw [if_neg (by omega), if_pos q, if_pos q]
  · rw [if_pos (by omega), if_neg q]
def binS (o : Nat) (x y : Int32) : Int32 := if o = 9 then x + y else if o = 10 then (if y ≤ x then 0 else 1) else if o = 11 then (if x ≤ y then 0 else 1) else if o = 13 then x &&& y else x ||| y
theorem opS_bin (F : Nat → Int32) {o : Nat} (ho : 8 < o) (h12 : o ≠ 12) (a x y : Int32) (st : List Int32) : opS F o a (y :: x :: st) = binS o x y :: st := by
  unfold opS binS
  rw [if_neg (by omega), if_neg (by omega)]
  dsimp only
  rw [if_neg h12]
theorem tyS_bin {o : Nat} (ho : 8 < o) (h12 : o ≠ 12) {ts ts' : List Bool} (h : tyS o ts = some ts') : ∃ y x r, ts = y :: x :: r ∧ (o = 13 ∨ o = 14 → x = true ∧ y = true) ∧ (o = 9 ∨ o = 10 ∨ o = 11 ∨ o = 13 ∨ o = 14) := by
  unfold tyS at h
  rw [if_neg (by omega), if_neg (by omega), if_neg (by omega)] at h
  match ts with
  | [] => simp at h
  | [y] => dsimp only at h; rw [if_neg h12] at h; simp at h
  | y :: x :: r =>
    dsimp only at h
    rw [if_neg h12] at h
    refine ⟨y, x, r, rfl, fun q => ?_, ?_⟩
    · rw [if_neg (by omega), if_neg (by omega), if_pos q] at h
      cases x <;> cases y <;> simp at h <;> simp
    · by_cases q : o = 9
      · omega
      · rw [if_neg q] at h
        by_cases q : o = 10 ∨ o = 11
        · omega
        · rw [if_neg q] at h
          by_cases q : o = 13 ∨ o = 14
          · omega
          · rw [if_neg q] at h; simp at h
theorem rstep_push {n : Nat} {V : St} {o : Nat} (ho : o ≤ 8) {a h x : Int32} {c : Nat} (hc : c < 400) (hf : m_X12_factOf n V (J o) a h = some x) : rstep n V (J c) (J o) a h = some (J (c + 1), su V 17 c x) := by
  unfold rstep
  rw [if_neg (by rw [show (8 : Int32) = J 8 from rfl, J_lt (by omega) (by omega)]; omega), hf, bd_s, if_pos (J_ix hc (by omega)), J_nat (by omega), nm_s, J_succ]
theorem rstep_not {n : Nat} {V : St} {a h : Int32} {c : Nat} (hc : c < 400) : rstep n V (J (c + 1)) (J 12) a h = some (J (c + 1), su V 17 c (1 - V 17 c)) := by
  unfold rstep
  rw [if_pos (by decide), if_pos (by decide), J_pred (by omega), Nat.add_sub_cancel, if_pos (J_ix hc (by omega)), if_pos (J_ix hc (by omega)), J_nat (by omega), nm_s]
theorem rstep_bin {n : Nat} {V : St} {o : Nat} (ho : o = 9 ∨ o = 10 ∨ o = 11 ∨ o = 13 ∨ o = 14) {a h : Int32} {c : Nat} (hc : c + 1 < 400) (hb : o = 13 ∨ o = 14 → isb (V 17 c) ∧ isb (V 17 (c + 1))) : rstep n V (J (c + 2)) (J o) a h = some (J (c + 1), su V 17 c (binS o (V 17 c) (V 17 (c + 1)))) := by
  unfold rstep binS
  have e1 : J (c + 2) + (-1) = J (c + 1) := J_neg1 (c + 2) (by omega)
  have e2 : J (c + 1) - 1 = J c := J_pred (k := c + 1) (by omega)
  simp only [e1, e2, J_nat (k := c) (show c < 2147483648 by omega), J_nat (k := c + 1) (show c + 1 < 2147483648 by omega), nm_s, ix_J (k := c) (n := 400) (by omega) (by omega), ix_J (k := c + 1) (n := 400) (by omega) (by omega), if_true]
  generalize V 17 c = x at hb ⊢
  generalize V 17 (c + 1) = y at hb ⊢
  rcases ho with rfl | rfl | rfl | rfl | rfl
  · rw [if_pos (by decide), if_neg (by decide), if_neg (by decide), if_neg (by decide), if_neg (by decide)]
    by_cases q : x + y ≤ 0
    · rw [if_pos q, bd_s, if_pos (by decide), bd_s, if_pos rfl]
    · rw [if_neg q, bd_s, if_pos (by decide), bd_s, if_pos rfl]
  · rw [if_pos (by decide), if_neg (by decide), if_pos (by decide)]
    by_cases q : y ≤ x
    · rw [if_pos q, bd_s, if_neg (by decide), if_pos rfl, bd_s, if_neg (by decide), if_pos rfl]
      rw [if_pos q]
    · rw [if_neg q, bd_s, if_neg (by decide), if_neg (by decide), bd_s, if_neg (by decide), if_pos rfl]
      rw [if_neg q]
  · rw [if_pos (by decide), if_neg (by decide), if_neg (by decide), if_pos (by decide)]
    by_cases q : x ≤ y
    · rw [if_pos q, bd_s, if_neg (by decide), if_pos rfl, bd_s, if_neg (by decide), if_neg (by decide), if_pos rfl]
      rw [if_pos q]
    · rw [if_neg q, bd_s, if_neg (by decide), if_neg (by decide), bd_s, if_neg (by decide), if_neg (by decide), if_pos rfl]
      rw [if_neg q]
  · rcases hb (.inl rfl) with ⟨rfl | rfl, rfl | rfl⟩ <;> rfl
  · rcases hb (.inr rfl) with ⟨rfl | rfl, rfl | rfl⟩ <;> rfl
theorem rstep_ok {n : Nat} {V : St} {F : Nat → Int32} {o : Nat} (ho : o ≤ 14) {a h : Int32} {ts ts' : List Bool} {st : List Int32} (t1 : tyS o ts = some ts') (ht : Tyd ts st) (h64 : ts.length ≤ 64) (hs : Stk (V 17) st) (hf : o ≤ 8 → m_X12_factOf n V (J o) a h = some (if o = 8 then a else F o)) :
    Ok (rstep n V (J st.length) (J o) a h) (fun t => t.1 = J (opS F o a st).length ∧ Stk (t.2 17) (opS F o a st) ∧ Fr [17] V t.2) := by
  have hlen := ht.len
  by_cases h8 : o ≤ 8
  · rw [rstep_push h8 (by omega) (hf h8), opS_push F h8]
    refine ok_some ⟨rfl, ?_, (Fr.rfl _ _).put (by simp) _ _⟩
    dsimp only; rw [su_e]; exact Stk.push hs _
  by_cases h12 : o = 12
  · subst h12
    match ts, st, ht with
    | [], [], _ => simp [tyS] at t1
    | y :: r, b :: s, ht =>
      simp only [List.length_cons] at hlen h64
      rw [List.length_cons, rstep_not (by omega)]
      have e : opS F 12 a (b :: s) = (1 - b) :: s := rfl
      rw [e]
      refine ok_some ⟨rfl, ?_, (Fr.rfl _ _).put (by simp) _ _⟩
      dsimp only
      rw [su_e, hs.1]; exact Stk.push hs.2 _
  · obtain ⟨y, x, r, rfl, hb, ho'⟩ := tyS_bin (by omega) h12 t1
    match st, ht with
    | b :: c :: s, ht =>
      simp only [List.length_cons] at hlen h64
      have e1 : V 17 s.length = c := hs.2.1
      have e2 : V 17 (s.length + 1) = b := hs.1
      rw [List.length_cons, List.length_cons, rstep_bin ho' (by omega) (by rw [e1, e2]; exact fun q => ⟨ht.2.1 (hb q).1, ht.1 (hb q).2⟩), e1, e2, opS_bin F (by omega) h12]
      refine ok_some ⟨rfl, ?_, (Fr.rfl _ _).put (by simp) _ _⟩
      dsimp only; rw [su_e]; exact Stk.push hs.2.2 _
def holdS (w : Nat → Int32) (h l : Nat) : Bool := decide (evS (factS w h) (lg w) (la w) (lf w l) (lt w l - lf w l) [] = [] ∨ evS (factS w h) (lg w) (la w) (lf w l) (lt w l - lf w l) [] = [1])
def b2 (b : Bool) : Int32 := if b then 1 else 0
theorem hold_fin {F : Nat → Int32} {g : Nat → Nat} {a : Nat → Int32} (hF : ∀ o, 6 ≤ o → isb (F o)) {i d : Nat} (hty : tyR g i d [] = some [] ∨ tyR g i d [] = some [true]) :
    evS F g a i d [] = [] ∨ evS F g a i d [] = [0] ∨ evS F g a i d [] = [1] := by
  rcases hty with q | q
  · have := tyd_fin (a := a) hF q (st := []) trivial
    revert this
    generalize evS F g a i d [] = r
    intro this
    match r, this with
    | [], _ => exact .inl rfl
  · have := tyd_fin (a := a) hF q (st := []) trivial
    revert this
    generalize evS F g a i d [] = r
    intro this
    match r, this with
    | [b], hb => rcases hb.1 rfl with rfl | rfl
                 · exact .inr (.inl rfl)
                 · exact .inr (.inr rfl)
theorem holdsLine_ok {n : Nat} (hn : 5000 < n) (V : St) (hI : WInv (V 1)) {h : Nat} (hh : h < 2 * nP (V 1)) {l : Nat} (hl : l < 12) (hL : LL (V 1) l) :
    Ok (m_X12_holdsLine n V (J l) (J h)) (fun r => Fr [17] V r.2 ∧ r.1 = b2 (holdS (V 1) h l)) := by
  obtain ⟨e1, e2, hft, h400, -, hty, hop⟩ := hL
  have h5 := hI.p5
  have hw1 : ∀ V' : St, Fr [17] V V' → V' 1 = V 1 := fun V' hf => hf 1 (by simp)
  unfold m_X12_holdsLine
  simp only [nm_s, lineAt, lineAt2, lineAt3, ix_J (k := 385 + 4 * l) (n := 2080) (by omega) (by omega), J_nat (k := 385 + 4 * l) (by omega), e1, ↓reduceIte]
  refine ok_bd2 (P := fun t => Fr [17] V t.2 ∧ t.1 = J (evS (factS (V 1) h) (lg (V 1)) (la (V 1)) (lf (V 1) l) (lt (V 1) l - lf (V 1) l) []).length ∧ Stk (t.2 17) (evS (factS (V 1) h) (lg (V 1)) (la (V 1)) (lf (V 1) l) (lt (V 1) l - lf (V 1) l) [])) ?_ ?_
  · refine ok_lp (μ := fun x => lt (V 1) l - x.2.1.toNatClampNeg) (I := fun x => ∃ (i d : Nat) (ts fin : List Bool) (st : List Int32), x.1 = J st.length ∧ x.2.1 = J i ∧ i + d = lt (V 1) l ∧ lf (V 1) l ≤ i ∧ tyR (lg (V 1)) i d ts = some fin ∧ Tyd ts st ∧ ts.length ≤ 64 ∧ Stk (x.2.2 17) st ∧ Fr [17] V x.2.2 ∧ evS (factS (V 1) h) (lg (V 1)) (la (V 1)) i d st = evS (factS (V 1) h) (lg (V 1)) (la (V 1)) (lf (V 1) l) (lt (V 1) l - lf (V 1) l) []) ?_ n _ ?_ ?_
    · rintro rc ⟨c, j, V'⟩ ⟨i, d, ts, fin, st, hc, hj, hid, hfi, hr, ht, h64, hs, hf, he⟩ ih
      dsimp only at hc hj hs hf
      subst hc hj
      have hV := hw1 V' hf
      have hlen := ht.len
      cases d with
      | zero =>
        simp only [ix_J (k := 386 + 4 * l) (n := 2080) (by omega) (by omega), J_nat (k := 386 + 4 * l) (by omega), hV, e2, J_le (a := lt (V 1) l) (b := i) (by omega) (by omega), show lt (V 1) l ≤ i from by omega, ↓reduceIte]
        refine ok_some ⟨hf, ?_, ?_⟩
        · rw [← he]; rfl
        · rw [← he]; exact hs
      | succ d =>
        obtain ⟨ho1, ho2, ho3⟩ := hop i hfi (by omega)
        obtain ⟨ts', t1, t2, t3⟩ := tyR_step hr
        have hT := ty_step (F := factS (V 1) h) (a := la (V 1) i) (factS_b _ _) t1 ht
        have hlen' := hT.len
        have key := rstep_ok (n := n) (V := V') (F := factS (V 1) h) ho2 (a := V 1 (432 + 2 * i)) (h := J h) t1 ht h64 hs (fun h8 => by
          have := factOf_s hn V' (by rw [hV]; exact hI) (h := h) (by rw [hV]; exact hh) (o := lg (V 1) i) h8 (V 1 (432 + 2 * i))
          rw [hV] at this; exact this)
        simp only [ix_J (k := 386 + 4 * l) (n := 2080) (by omega) (by omega), J_nat (k := 386 + 4 * l) (by omega), hV, e2, J_le (a := lt (V 1) l) (b := i) (by omega) (by omega), show ¬ lt (V 1) l ≤ i from by omega, stepAt, stepAt1, ix_J (k := 431 + 2 * i) (n := 2080) (by omega) (by omega), J_nat (k := 431 + 2 * i) (by omega), ho1, ix_J (k := 432 + 2 * i) (n := 2080) (by omega) (by omega), J_nat (k := 432 + 2 * i) (by omega), ↓reduceIte]
        simp only [rstep, nm_s] at key
        refine ok_bd2 key ?_
        rintro ⟨c, V2⟩ ⟨q1, q2, q3⟩
        dsimp only at q1 q2 q3 ⊢
        rw [J_succ]
        refine ih _ ⟨i + 1, d, ts', fin, _, q1, rfl, by omega, by omega, t3, hT, t2, q2, hf.tr q3, he⟩ ?_
        show lt (V 1) l - (J (i + 1)).toNatClampNeg < lt (V 1) l - (J i).toNatClampNeg
        rw [J_nat (by omega), J_nat (by omega)]; omega
    · rcases hty with q | q
      · exact ⟨lf (V 1) l, lt (V 1) l - lf (V 1) l, [], [], [], rfl, rfl, by omega, Nat.le_refl _, q, trivial, by simp, trivial, Fr.rfl _ _, rfl⟩
      · exact ⟨lf (V 1) l, lt (V 1) l - lf (V 1) l, [], [true], [], rfl, rfl, by omega, Nat.le_refl _, q, trivial, by simp, trivial, Fr.rfl _ _, rfl⟩
    · show lt (V 1) l - (J (lf (V 1) l)).toNatClampNeg < n
      rw [J_nat (by omega)]; omega
  · rintro ⟨c, V2⟩ ⟨q1, q2, q3⟩
    dsimp only at q1 q2 q3 ⊢
    simp only [jn_s]
    have hq := hold_fin (a := la (V 1)) (factS_b (V 1) h) hty
    unfold holdS
    revert hq q2 q3
    generalize evS (factS (V 1) h) (lg (V 1)) (la (V 1)) (lf (V 1) l) (lt (V 1) l - lf (V 1) l) [] = r
    intro q2 q3 hq
    rcases hq with rfl | rfl | rfl
    · refine ok_gd (c := c = 0) (by rw [q2]; rfl) (ok_some ⟨q1, ?_⟩)
      rw [decide_eq_true (.inl rfl)]; rfl
    · have e0 : V2 17 0 = 0 := q3.1
      refine ok_ng (c := c = 0) (by rw [q2]; exact (by decide : ¬ (J 1 = 0))) (ok_ng (by rw [e0]; decide) (ok_some ⟨q1, ?_⟩))
      rw [decide_eq_false (by simp)]; rfl
    · have e0 : V2 17 0 = 1 := q3.1
      refine ok_ng (c := c = 0) (by rw [q2]; exact (by decide : ¬ (J 1 = 0))) (ok_gd (by rw [e0]) (ok_some ⟨q1, ?_⟩))
      rw [decide_eq_true (.inr rfl)]; rfl
end PHOLDS
