section PEVAL
/-- what a word of the law tells of a house -/
def factS (w : Nat → Int32) (h : Nat) (o : Nat) : Int32 :=
  if o = 0 then J h else if o = 1 then heightS w h else if o = 2 then loadS w h else if o = 3 then w (33 + 2 * h) else if o = 4 then w (13 + 4 * (h / 2)) else if o = 5 then w 4 else if o = 6 then (if heightS w h ≤ 5 then 0 else 1) else (if heightS w h = 5 then 1 else 0)
/-- one step of a condition; what is on top stands first -/
def opS (F : Nat → Int32) (o : Nat) (a : Int32) (st : List Int32) : List Int32 :=
  if o < 8 then F o :: st else if o = 8 then a :: st else match st with
  | [] => []
  | y :: r => if o = 12 then (1 - y) :: r else match r with
    | [] => []
    | x :: r => (if o = 9 then x + y else if o = 10 then (if y ≤ x then 0 else 1) else if o = 11 then (if x ≤ y then 0 else 1) else if o = 13 then x &&& y else x ||| y) :: r
/-- its kinds: true is what holds or not, false a number -/
def tyS (o : Nat) (ts : List Bool) : Option (List Bool) :=
  if o < 6 then some (false :: ts) else if o < 8 then some (true :: ts) else if o = 8 then some (false :: ts) else match ts with
  | [] => none
  | y :: r => if o = 12 then (if y then some (true :: r) else none) else match r with
    | [] => none
    | x :: r => if o = 9 then (if x || y then none else some (false :: r)) else if o = 10 ∨ o = 11 then (if x || y then none else some (true :: r)) else if o = 13 ∨ o = 14 then (if x && y then some (true :: r) else none) else none
def Tyd : List Bool → List Int32 → Prop
  | [], [] => True
  | t :: ts, x :: st => (t = true → isb x) ∧ Tyd ts st
  | _, _ => False
theorem Tyd.len : ∀ {ts : List Bool} {st : List Int32}, Tyd ts st → ts.length = st.length
  | [], [], _ => rfl
  | t :: ts, x :: st, h => congrArg (· + 1) h.2.len
  | [], x :: st, h => absurd h (by simp [Tyd])
  | t :: ts, [], h => absurd h (by simp [Tyd])
theorem isb_if {c : Prop} [Decidable c] : isb (if c then (0 : Int32) else 1) := by
  by_cases h : c
  · exact .inl (if_pos h)
  · exact .inr (if_neg h)
theorem isb_if' {c : Prop} [Decidable c] : isb (if c then (1 : Int32) else 0) := by
  by_cases h : c
  · exact .inr (if_pos h)
  · exact .inl (if_neg h)
theorem isb_and {x y : Int32} (hx : isb x) (hy : isb y) : isb (x &&& y) := by
  rcases hx with rfl | rfl <;> rcases hy with rfl | rfl <;> decide
theorem isb_or {x y : Int32} (hx : isb x) (hy : isb y) : isb (x ||| y) := by
  rcases hx with rfl | rfl <;> rcases hy with rfl | rfl <;> decide
theorem isb_not {x : Int32} (hx : isb x) : isb (1 - x) := by
  rcases hx with rfl | rfl <;> decide
theorem factS_b (w : Nat → Int32) (h o : Nat) (ho : 6 ≤ o) : isb (factS w h o) := by
  unfold factS
  rw [if_neg (by omega), if_neg (by omega), if_neg (by omega), if_neg (by omega), if_neg (by omega), if_neg (by omega)]
  by_cases e : o = 6
  · rw [if_pos e]; exact isb_if
  · rw [if_neg e]; exact isb_if'
theorem ty_step {F : Nat → Int32} (hF : ∀ o, 6 ≤ o → isb (F o)) {o : Nat} {a : Int32} {ts ts' : List Bool} {st : List Int32} (h : tyS o ts = some ts') (ht : Tyd ts st) : Tyd ts' (opS F o a st) := by
  unfold tyS at h
  unfold opS
  by_cases h1 : o < 6
  · rw [if_pos h1] at h; rw [if_pos (by omega)]
    cases h; exact ⟨fun q => by simp at q, ht⟩
  rw [if_neg h1] at h
  by_cases h2 : o < 8
  · rw [if_pos h2] at h; rw [if_pos h2]
    cases h; exact ⟨fun _ => hF o (by omega), ht⟩
  rw [if_neg h2] at h; rw [if_neg h2]
  by_cases h3 : o = 8
  · rw [if_pos h3] at h; rw [if_pos h3]
    cases h; exact ⟨fun q => by simp at q, ht⟩
  rw [if_neg h3] at h; rw [if_neg h3]
  match ts, st, ht with
  | [], [], _ => simp at h
  | y :: r, b :: s, ht =>
    dsimp only at h ⊢
    by_cases h4 : o = 12
    · rw [if_pos h4] at h; rw [if_pos h4]
      cases y
      · simp at h
      · simp only [↓reduceIte] at h; cases h
        exact ⟨fun _ => isb_not (ht.1 rfl), ht.2⟩
    · rw [if_neg h4] at h; rw [if_neg h4]
      match r, s, ht.2 with
      | [], [], _ => simp at h
      | x :: r, c :: s, ht2 =>
        dsimp only at h ⊢
        by_cases h5 : o = 9
        · rw [if_pos h5] at h
          cases x <;> cases y <;> simp at h
          subst h
          exact ⟨fun q => by simp at q, ht2.2⟩
        rw [if_neg h5] at h; rw [if_neg h5]
        by_cases h6 : o = 10 ∨ o = 11
        · rw [if_pos h6] at h
          cases x <;> cases y <;> simp at h
          subst h
          refine ⟨fun _ => ?_, ht2.2⟩
          by_cases h7 : o = 10
          · rw [if_pos h7]; exact isb_if
          · rw [if_neg h7, if_pos (by omega)]; exact isb_if
        rw [if_neg h6] at h; rw [if_neg (by omega), if_neg (by omega)]
        by_cases h7 : o = 13 ∨ o = 14
        · rw [if_pos h7] at h
          cases x <;> cases y <;> simp at h
          subst h
          refine ⟨fun _ => ?_, ht2.2⟩
          by_cases h8 : o = 13
          · rw [if_pos h8]; exact isb_and (ht2.1 rfl) (ht.1 rfl)
          · rw [if_neg h8]; exact isb_or (ht2.1 rfl) (ht.1 rfl)
        · rw [if_neg h7] at h; simp at h
/-- a stack in a row -/
def Stk (arr : Nat → Int32) : List Int32 → Prop
  | [] => True
  | x :: r => arr r.length = x ∧ Stk arr r
theorem Stk.up {arr : Nat → Int32} : ∀ {r : List Int32}, Stk arr r → ∀ {k : Nat} (x : Int32), r.length ≤ k → Stk (upd arr k x) r
  | [], _, _, _, _ => trivial
  | y :: r, h, k, x, hk => ⟨by rw [upd_n _ _ _ (by simp at hk; omega)]; exact h.1, h.2.up x (by simp at hk; omega)⟩
theorem Stk.push {arr : Nat → Int32} {r : List Int32} (h : Stk arr r) (x : Int32) : Stk (upd arr r.length x) (x :: r) := ⟨upd_e _ _ _, h.up x (Nat.le_refl _)⟩
/-- a run over some steps -/
def evS (F : Nat → Int32) (g : Nat → Nat) (a : Nat → Int32) : Nat → Nat → List Int32 → List Int32
  | _, 0, st => st
  | i, d + 1, st => evS F g a (i + 1) d (opS F (g i) (a i) st)
def tyR (g : Nat → Nat) : Nat → Nat → List Bool → Option (List Bool)
  | _, 0, ts => some ts
  | i, d + 1, ts => match tyS (g i) ts with
    | none => none
    | some ts' => if ts'.length ≤ 64 then tyR g (i + 1) d ts' else none
theorem tyR_step {g : Nat → Nat} {i d : Nat} {ts fin : List Bool} (h : tyR g i (d + 1) ts = some fin) : ∃ ts', tyS (g i) ts = some ts' ∧ ts'.length ≤ 64 ∧ tyR g (i + 1) d ts' = some fin := by
  unfold tyR at h
  cases e : tyS (g i) ts with
  | none => rw [e] at h; simp at h
  | some ts' =>
    rw [e] at h
    dsimp only at h
    by_cases hl : ts'.length ≤ 64
    · rw [if_pos hl] at h; exact ⟨ts', rfl, hl, h⟩
    · rw [if_neg hl] at h; simp at h
/-- the sign of the class for a step -/
def sgn (o : Nat) (a : Int32) : Int32 :=
  if o = 0 then -320 else if o = 1 then -321 else if o = 2 then -322 else if o = 3 then -302 else if o = 4 then -323 else if o = 5 then -324 else if o = 6 then -318 else if o = 7 then -319 else if o = 8 then a else if o = 9 then -43 else if o = 10 then -60 else if o = 11 then -62 else if o = 12 then -317 else if o = 13 then -316 else -315
theorem le14 {o : Nat} (h : o ≤ 14) : o = 0 ∨ o = 1 ∨ o = 2 ∨ o = 3 ∨ o = 4 ∨ o = 5 ∨ o = 6 ∨ o = 7 ∨ o = 8 ∨ o = 9 ∨ o = 10 ∨ o = 11 ∨ o = 12 ∨ o = 13 ∨ o = 14 := by omega
theorem J_div2 {h : Nat} (hh : h < 10) : J h / 2 = J (h / 2) := by
  have : ∀ h : Nat, h < 10 → J h / 2 = J (h / 2) := by decide +kernel
  exact this h hh
theorem factOf_s {n : Nat} (hn : 5000 < n) (V : St) (hI : WInv (V 1)) {h : Nat} (hh : h < 2 * nP (V 1)) {o : Nat} (ho : o ≤ 8) (a : Int32) : m_X12_factOf n V (J o) a (J h) = some (if o = 8 then a else factS (V 1) h o) := by
  have h5 := hI.p5
  unfold m_X12_factOf
  rcases (by omega : o = 0 ∨ o = 1 ∨ o = 2 ∨ o = 3 ∨ o = 4 ∨ o = 5 ∨ o = 6 ∨ o = 7 ∨ o = 8) with rfl | rfl | rfl | rfl | rfl | rfl | rfl | rfl | rfl
  · rfl
  · exact (congrArg (fun x => bd x (fun t1 => some t1)) (heightOf_s hn V hI (h := h) (by omega))).trans rfl
  · exact (congrArg (fun x => bd x (fun t1 => some t1)) (loadOf_s hn V hI (h := h) (by omega))).trans rfl
  · exact (congrArg (fun x => bd x (fun t1 => some t1)) (of_1 n V (p := h) (by omega))).trans rfl
  · show bd (m_X12_plankOf n (J h)) (fun t4 => bd (m_X12_ofPlank n V t4 1) (fun t5 => some t5)) = _
    rw [plankOf_s n (by omega), bd_s, ofPlank_1 n V (by omega)]; rfl
  · rfl
  · show bd (m_X12_heightOf n V (J h)) (fun t6 => if t6 ≤ 5 then some 0 else some 1) = _
    rw [heightOf_s hn V hI (by omega), bd_s]
    show _ = some (if heightS (V 1) h ≤ 5 then 0 else 1)
    split <;> rfl
  · show bd (m_X12_plankOf n (J h)) (fun t7 => bd (m_X12_isLevel n V t7) (fun t8 => if t8 = 0 then some 0 else some 1)) = _
    rw [plankOf_s n (by omega), bd_s, isLevel_s hn V hI (by omega), bd_s]
    show _ = some (if heightS (V 1) h = 5 then 1 else 0)
    have e : heightS (V 1) h = 5 ↔ (¬ V 1 (15 + 4 * (h / 2)) = 1 ∧ tiltS (V 1) (h / 2) = 0) := by
      unfold heightS
      by_cases hb : V 1 (15 + 4 * (h / 2)) = 1
      · simp [hb]
      · simp only [hb, ↓reduceIte, not_false_eq_true, true_and]
        by_cases hm : h % 2 = 0
        · simp only [hm, ↓reduceIte]; grind
        · simp only [hm, ↓reduceIte]; grind
    by_cases c : (¬ V 1 (15 + 4 * (h / 2)) = 1 ∧ tiltS (V 1) (h / 2) = 0)
    · rw [if_pos (e.mpr c)]; unfold b2i; rw [if_pos c]; rfl
    · rw [if_neg (fun q => c (e.mp q))]; unfold b2i; rw [if_neg c]; rfl
  · rfl
/-- the facts of a house as the class has them -/
def HF (v : St) (w : Nat → Int32) (h : Nat) : Prop := v 19 h = heightS w h ∧ v 18 h = loadS w h ∧ v 14 h = w (33 + 2 * h) ∧ v 10 (h / 2) = w (13 + 4 * (h / 2)) ∧ v 7 0 = w 4
theorem Xfact (n : Nat) {v : St} {w : Nat → Int32} {h : Nat} (hF : HF v w h) (hh : h < 10) {o : Nat} (ho : o < 8) (a : Int32) : m_X3_fact n v (-(sgn o a)) (J h) = some (factS w h o) := by
  obtain ⟨f1, f2, f3, f4, f5⟩ := hF
  unfold m_X3_fact
  rcases (by omega : o = 0 ∨ o = 1 ∨ o = 2 ∨ o = 3 ∨ o = 4 ∨ o = 5 ∨ o = 6 ∨ o = 7) with rfl | rfl | rfl | rfl | rfl | rfl | rfl | rfl
  · rfl
  · show (if ix (J h) 10 then some (v 19 (J h).toNatClampNeg) else none) = _
    rw [if_pos (J_ix hh (by omega)), J_nat (by omega), f1]; rfl
  · show (if ix (J h) 10 then some (v 18 (J h).toNatClampNeg) else none) = _
    rw [if_pos (J_ix hh (by omega)), J_nat (by omega), f2]; rfl
  · show (if ix (J h) 10 then some (v 14 (J h).toNatClampNeg) else none) = _
    rw [if_pos (J_ix hh (by omega)), J_nat (by omega), f3]; rfl
  · show (if ix (J h / 2) 5 then some (v 10 (J h / 2).toNatClampNeg) else none) = _
    rw [J_div2 hh, if_pos (J_ix (by omega) (by omega)), J_nat (by omega), f4]; rfl
  · show some (v 7 0) = _
    rw [f5]; rfl
  · show (if ix (J h) 10 then (if v 19 (J h).toNatClampNeg ≤ 5 then some 0 else some 1) else none) = _
    rw [if_pos (J_ix hh (by omega)), J_nat (by omega), f1]
    show _ = some (if heightS w h ≤ 5 then 0 else 1)
    split <;> rfl
  · show (if ix (J h) 10 then (if v 19 (J h).toNatClampNeg = 5 then some 1 else some 0) else none) = _
    rw [if_pos (J_ix hh (by omega)), J_nat (by omega), f1]
    show _ = some (if heightS w h = 5 then 1 else 0)
    split <;> rfl
end PEVAL
