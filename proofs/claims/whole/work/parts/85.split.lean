section PSPLIT
def valS (tp : Nat → Int32) (j k : Nat) : Int32 := foldN (fun i a => ((10 * a) + tp (j + i)) - 48) 0 k
def numS (tp : Nat → Int32) (len j : Nat) (lo hi : Int32) : Int32 := if de_ tp len j = j then -1 else if 3 < de_ tp len j - j then -1 else if valS tp j (de_ tp len j - j) < lo then -1 else if valS tp j (de_ tp len j - j) ≤ hi then valS tp j (de_ tp len j - j) else -1
theorem digR {n : Nat} (hn : 5000 < n) {V : St} {len : Nat} (h : TX V len) (j : Nat) : ∀ d p m, p + d = len → j ≤ p → d < m → lp (fun (rc4 : Int32 × St → Option (Int32 × St)) (x4l : Int32 × St) =>
bd (m_X12_isAt n x4l.2 48 57) (fun t5 =>
(if t5 = 0 then
some (x4l.1, x4l.2)
else
bd ((if 3 ≤ ((x4l.2 10 0) - (x4l.2 12 0)) then
some x4l.1
else
(if ix (x4l.2 10 0) 400 then some (((10 * x4l.1) + (x4l.2 8 ((x4l.2 10 0)).toNatClampNeg)) - 48) else none))) (fun (t6 : Int32) =>
nm (su x4l.2 10 0 ((x4l.2 10 0) + 1)) (fun u7 =>
rc4 (t6, u7)))))) m (valS (V 8) j (min (p - j) 3), PB V p j) = some (valS (V 8) j (min (de_ (V 8) len p - j) 3), PB V (de_ (V 8) len p) j)
  | 0, p, m, hd, hj, hm => by
    obtain ⟨m, rfl⟩ : ∃ j, m = j + 1 := ⟨m - 1, by omega⟩
    rw [lp_succ]
    dsimp only
    rw [isAtR n h (by omega), bd_s, decide_eq_false (by omega), if_pos (by decide), show de_ (V 8) len p = p from run_ge _ _ (by omega)]
  | d + 1, p, m, hd, hj, hm => by
    obtain ⟨m, rfl⟩ : ∃ j, m = j + 1 := ⟨m - 1, by omega⟩
    have hl := h.1
    have ih := digR hn h j d (p + 1) m (by omega) (by omega) (by omega)
    rw [lp_succ]
    dsimp only
    rw [isAtR n h (by omega), bd_s, show de_ (V 8) len p = if isD (V 8 p) then de_ (V 8) len (p + 1) else p from run_step _ _ (show p < len by omega)]
    unfold isD
    by_cases q : 48 ≤ V 8 p ∧ V 8 p ≤ 57
    · rw [decide_eq_true q, decide_eq_true (⟨by omega, q⟩ : p < len ∧ _), if_neg (by decide), if_pos rfl]
      simp only [PB_p, PB_b, J_sub hj, PB_n V p j (f := 8) (by decide) (by decide)]
      have ev : (if 3 ≤ J (p - j) then some (valS (V 8) j (min (p - j) 3)) else if ix (J p) 400 then some (((10 * valS (V 8) j (min (p - j) 3)) + V 8 (J p).toNatClampNeg) - 48) else none) = some (valS (V 8) j (min (p + 1 - j) 3)) := by
        by_cases q3 : 3 ≤ p - j
        · rw [if_pos (by rw [show (3 : Int32) = J 3 from rfl, J_le (by omega) (by omega)]; exact q3), show min (p - j) 3 = min (p + 1 - j) 3 from by omega]
        · rw [if_neg (by rw [show (3 : Int32) = J 3 from rfl, J_le (by omega) (by omega)]; exact q3), if_pos (J_ix (by omega) (by omega)), J_nat (by omega), show min (p - j) 3 = p - j from by omega, show min (p + 1 - j) 3 = (p - j) + 1 from by omega]
          unfold valS
          rw [foldN_succ, show j + (p - j) = p from by omega]
      rw [ev, bd_s, nm_s, J_succ, PB_10]
      exact ih
    · rw [decide_eq_false q, decide_eq_false (fun h => q h.2), if_pos (by decide), if_neg (by simp)]
theorem numberR {n : Nat} (hn : 5000 < n) {V : St} {len : Nat} (h : TX V len) {p b : Nat} (hp : p ≤ len) (lo hi : Int32) : m_X12_number n (PB V p b) lo hi = some (numS (V 8) len (sk (V 8) len p) lo hi, PB V (de_ (V 8) len (sk (V 8) len p)) (sk (V 8) len p)) := by
  have hl := h.1
  obtain ⟨j, hj⟩ : ∃ j, j = sk (V 8) len p := ⟨_, rfl⟩
  have hjl : j ≤ len := by rw [hj]; exact (run_le isB (V 8) hp).2
  unfold m_X12_number
  rw [blanksR hn h hp, ← hj, bd_s]
  have hd := digR hn h j (len - j) j n (by omega) (Nat.le_refl _) (by omega)
  rw [show min (j - j) 3 = 0 from by omega, show valS (V 8) j 0 = 0 from by unfold valS; rw [foldN]] at hd
  rw [hd, bd_s]
  simp only [jn_s]
  obtain ⟨e, he⟩ : ∃ e, e = de_ (V 8) len j := ⟨_, rfl⟩
  have hel : j ≤ e ∧ e ≤ len := by rw [he]; exact run_le isD (V 8) hjl
  unfold numS
  rw [← he, PB_p, PB_b, J_sub hel.1]
  by_cases q1 : e = j
  · rw [if_pos (by rw [q1]), if_pos q1]
  · rw [if_neg (by rw [J_inj (by omega) (by omega)]; exact q1), if_neg q1]
    by_cases q2 : 3 < e - j
    · rw [if_pos (by rw [show (3 : Int32) = J 3 from rfl, J_lt (by omega) (by omega)]; exact q2), if_pos q2]
    · rw [if_neg (by rw [show (3 : Int32) = J 3 from rfl, J_lt (by omega) (by omega)]; exact q2), if_neg q2, show min (e - j) 3 = e - j from by omega]
      by_cases q3 : valS (V 8) j (e - j) < lo
      · rw [if_pos q3, if_pos q3]
      · rw [if_neg q3, if_neg q3]
        by_cases q4 : valS (V 8) j (e - j) ≤ hi
        · rw [if_pos q4, if_pos q4]
        · rw [if_neg q4, if_neg q4]
-- the class's words
def wds : List (List Int32) := [wd 4, wd 5, wd 6, wd 7, wd 8, wd 9, wd 10, wd 11, wd 12, wd 2, wd 3, wd 1, wd 23, wd 24, wd 25, wd 22, wd 21, wd 20, wd 18, wd 19, wd 13, wd 14, wd 15, wd 16, wd 17]
theorem wds_flat : wd 0 = (wds.map (fun w => w ++ [32])).flatten := by decide +kernel
theorem wds_no : ∀ w ∈ wds, ∀ c ∈ w, c ≠ 32 := by decide +kernel
def wcL : List (List Int32) → Int32 → List Int32 → Int32
  | [], _, _ => 258
  | w :: ws, c, sl => if sl = w then c else wcL ws (c + 1) sl
theorem wcL_cases : ∀ (ws : List (List Int32)) (c : Int32) (sl : List Int32), wcL ws c sl = 258 ∨ ∃ k, k < ws.length ∧ wcL ws c sl = c + J k ∧ sl = ws.getD k []
  | [], _, _ => .inl (by rw [wcL])
  | w :: ws, c, sl => by
    rw [wcL]
    by_cases h : sl = w
    · rw [if_pos h]; exact .inr ⟨0, by simp, by show c = c + 0; rw [Int32.add_zero], by simpa using h⟩
    · rw [if_neg h]
      rcases wcL_cases ws (c + 1) sl with q | ⟨k, h1, h2, h3⟩
      · exact .inl q
      · exact .inr ⟨k + 1, by simp; omega, by rw [h2, show J (k + 1) = J k + 1 from (J_succ k).symm]; grind, by simpa using h3⟩
theorem wcL_at : ∀ k : Nat, k < 25 → wcL wds 300 (wds.getD k []) = J (300 + k) := by decide +kernel
theorem wcL_iff (sl : List Int32) {k : Nat} (hk : k < 25) : wcL wds 300 sl = J (300 + k) ↔ sl = wds.getD k [] := by
  constructor
  · intro h
    rcases wcL_cases wds 300 sl with q | ⟨k', h1, h2, h3⟩
    · rw [q, show (258 : Int32) = J 258 from rfl, J_inj (by omega) (by omega)] at h; omega
    · have hl : wds.length = 25 := by decide
      rw [h2, show (300 : Int32) = J 300 from rfl, J_add, J_inj (by omega) (by omega)] at h
      rw [show k = k' from by omega]; exact h3
  · intro h; rw [h]; exact wcL_at k hk
theorem wcL_rng (sl : List Int32) : wcL wds 300 sl = 258 ∨ ∃ k, k < 25 ∧ wcL wds 300 sl = J (300 + k) := by
  rcases wcL_cases wds 300 sl with q | ⟨k', h1, h2, h3⟩
  · exact .inl q
  · have hl : wds.length = 25 := by decide
    exact .inr ⟨k', by omega, by rw [h2, show (300 : Int32) = J 300 from rfl, J_add]⟩
def WL (f : Nat → Int32) (m : Nat) : List Int32 → Int32 → Option Nat → Int32
  | [], _, _ => 258
  | c :: cs, code, ft => if c = 32 then (if ft = some m then code else WL f m cs (code + 1) (some 0)) else match ft with
    | none => WL f m cs code none
    | some k => if k < m ∧ f k = c then WL f m cs code (some (k + 1)) else WL f m cs code none
theorem WL_nil (f : Nat → Int32) (m : Nat) (code : Int32) (ft : Option Nat) : WL f m [] code ft = 258 := by cases ft <;> rfl
theorem WL_cons (f : Nat → Int32) (m : Nat) (c : Int32) (cs : List Int32) (code : Int32) (ft : Option Nat) : WL f m (c :: cs) code ft = if c = 32 then (if ft = some m then code else WL f m cs (code + 1) (some 0)) else match ft with
    | none => WL f m cs code none
    | some k => if k < m ∧ f k = c then WL f m cs code (some (k + 1)) else WL f m cs code none := by cases ft <;> rfl
theorem WL_none (f : Nat → Int32) (m : Nat) (cs : List Int32) (code : Int32) : ∀ (w : List Int32), (∀ c ∈ w, c ≠ 32) → WL f m (w ++ 32 :: cs) code none = WL f m cs (code + 1) (some 0)
  | [], _ => by rw [List.nil_append, WL, if_pos rfl, if_neg (by simp)]
  | c :: w, h => by
    rw [List.cons_append, WL, if_neg (h c (by simp))]
    exact WL_none f m cs code w (fun d hd => h d (by simp [hd]))
def MT (f : Nat → Int32) (m k : Nat) (w : List Int32) : Prop := k + w.length = m ∧ ∀ i, i < w.length → f (k + i) = w.getD i 0
theorem MT_cons (f : Nat → Int32) (m k : Nat) (c : Int32) (w : List Int32) : MT f m k (c :: w) ↔ (k < m ∧ f k = c) ∧ MT f m (k + 1) w := by
  unfold MT
  simp only [List.length_cons]
  constructor
  · rintro ⟨h1, h2⟩
    refine ⟨⟨by omega, by have := h2 0 (by omega); simpa using this⟩, by omega, fun i hi => ?_⟩
    have := h2 (i + 1) (by omega)
    rw [show k + (i + 1) = k + 1 + i from by omega] at this
    simpa using this
  · rintro ⟨⟨h1, h2⟩, h3, h4⟩
    refine ⟨by omega, fun i hi => ?_⟩
    cases i with
    | zero => simpa using h2
    | succ i =>
      have := h4 i (by omega)
      rw [show k + (i + 1) = k + 1 + i from by omega]
      simpa using this
theorem WL_some (f : Nat → Int32) (m : Nat) (cs : List Int32) (code : Int32) : ∀ (w : List Int32) (k : Nat), (∀ c ∈ w, c ≠ 32) → (MT f m k w → WL f m (w ++ 32 :: cs) code (some k) = code) ∧ (¬ MT f m k w → WL f m (w ++ 32 :: cs) code (some k) = WL f m cs (code + 1) (some 0))
  | [], k, _ => by
    have e : MT f m k [] ↔ k = m := ⟨fun h => by have := h.1; simpa using this, fun h => ⟨by simpa using h, fun i hi => by simp at hi⟩⟩
    rw [List.nil_append, WL, if_pos rfl]
    constructor
    · intro h; rw [if_pos (by rw [e.mp h])]
    · intro h; rw [if_neg (by simp; exact fun q => h (e.mpr q))]
  | c :: w, k, h => by
    have ih := WL_some f m cs code w (k + 1) (fun d hd => h d (by simp [hd]))
    rw [List.cons_append, WL, if_neg (h c (by simp)), MT_cons]
    by_cases q : k < m ∧ f k = c
    · rw [if_pos q]
      exact ⟨fun g => ih.1 g.2, fun g => ih.2 (fun z => g ⟨q, z⟩)⟩
    · rw [if_neg q]
      exact ⟨fun g => absurd g.1 q, fun _ => WL_none f m cs code w (fun d hd => h d (by simp [hd]))⟩
theorem MT_slc {tp : Nat → Int32} {j e : Nat} {w : List Int32} : MT (fun k => tp (j + k)) (e - j) 0 w ↔ slc tp j e = w := by
  unfold MT
  constructor
  · rintro ⟨h1, h2⟩
    refine list_ext0 (by rw [slc_len]; omega) (fun k hk => ?_)
    rw [slc_len] at hk
    rw [slc_get _ hk, ← h2 k (by omega), Nat.zero_add]
  · rintro rfl
    rw [slc_len]
    exact ⟨by omega, fun i hi => by rw [Nat.zero_add, slc_get _ hi]⟩
theorem WL_all {tp : Nat → Int32} {j e : Nat} : ∀ (ws : List (List Int32)) (code : Int32), (∀ w ∈ ws, ∀ c ∈ w, c ≠ 32) → WL (fun k => tp (j + k)) (e - j) (ws.map (fun w => w ++ [32])).flatten code (some 0) = wcL ws code (slc tp j e)
  | [], _, _ => by simp [WL, wcL]
  | w :: ws, code, h => by
    have ih := WL_all (tp := tp) (j := j) (e := e) ws (code + 1) (fun w' hw' => h w' (by simp [hw']))
    have hw := WL_some (fun k => tp (j + k)) (e - j) (ws.map (fun w => w ++ [32])).flatten code w 0 (h w (by simp))
    rw [List.map_cons, List.flatten_cons, List.append_assoc, show [32] ++ (ws.map (fun w => w ++ [32])).flatten = 32 :: (ws.map (fun w => w ++ [32])).flatten from rfl, wcL]
    rw [MT_slc] at hw
    by_cases q : slc tp j e = w
    · rw [if_pos q]; exact hw.1 q
    · rw [if_neg q, ← ih]; exact hw.2 q
def fe : Option Nat → Int32
  | none => -1
  | some k => J k
theorem wordX {n : Nat} (hn : 5000 < n) {T : St} {tp : Nat → Int32} (hT : ∀ j, j < 400 → T 0 j = tp j) {j e : Nat} (hj : j ≤ e) (he : e ≤ 400) : m_X10_wordCode n T (J j) (J e) = some (wcL wds 300 (slc tp j e)) := by
  unfold m_X10_wordCode
  rw [J_sub hj, nm_s]
  have hlen : (wd 0).length = 126 := by decide +kernel
  have hs0 : sLen.getD 0 0 = 126 := by decide
  rw [hs0, ← WL_all wds 300 wds_no, ← wds_flat]
  have key : ∀ d i m code ft, i + d = 126 → d < m → (∀ k, ft = some k → k ≤ i) → lp (fun (rc2 : Int32 × Int32 × Int32 → Option (Int32)) (x2l : Int32 × Int32 × Int32) =>
(if (Int32.ofNat 126) ≤ x2l.2.2 then
some 258
else
(if ix x2l.2.2 126 then nm (s_ch 0 x2l.2.2) (fun x7_4 =>
jn (fun (t5 : Int32 × Int32) =>
rc2 (t5.1, t5.2, (x2l.2.2 + 1))) (fun (K5 : Int32 × Int32 → Option (Int32)) =>
(if x7_4 = 32 then
(if x2l.2.1 = J (e - j) then
some x2l.1
else
K5 ((x2l.1 + 1), 0))
else
jn (fun (t6 : Unit) =>
K5 (x2l.1, (-1))) (fun (K6 : Unit → Option (Int32)) =>
(if x2l.2.1 < 0 then
K6 ()
else
(if J (e - j) ≤ x2l.2.1 then
K6 ()
else
(if ix (J j + x2l.2.1) 400 then (if (T 0 ((J j + x2l.2.1)).toNatClampNeg) = x7_4 then
K5 (x2l.1, (x2l.2.1 + 1))
else
K6 ()) else none))))))) else none))) m (code, fe ft, J i) = some (WL (fun k => tp (j + k)) (e - j) ((wd 0).drop i) code ft) := by
    intro d
    induction d with
    | zero =>
      intro i m code ft hi hm hft
      obtain ⟨m, rfl⟩ : ∃ j, m = j + 1 := ⟨m - 1, by omega⟩
      rw [lp_succ]
      dsimp only
      rw [if_pos (by rw [J_le (by omega) (by omega)]; omega), List.drop_eq_nil_of_le (by omega), WL_nil]
    | succ d ih =>
      intro i m code ft hi hm hft
      obtain ⟨m, rfl⟩ : ∃ j, m = j + 1 := ⟨m - 1, by omega⟩
      have hc : (wd 0).drop i = (wd 0).getD i 0 :: (wd 0).drop (i + 1) := by
        rw [List.drop_eq_getElem_cons (show i < (wd 0).length by omega)]
        simp [List.getD_eq_getElem?_getD, List.getElem?_eq_getElem (show i < (wd 0).length by omega)]
      rw [lp_succ]
      dsimp only
      rw [if_neg (by rw [J_le (by omega) (by omega)]; omega), if_pos (J_ix (by omega) (by omega)), nm_s, wd_255 (by omega) (by omega), hc, WL_cons, J_succ i]
      simp only [jn_s]
      generalize (wd 0).getD i 0 = c
      by_cases q : c = 32
      · rw [if_pos q, if_pos q]
        by_cases q2 : ft = some (e - j)
        · rw [if_pos q2, if_pos (by rw [q2]; rfl)]
        · have : ¬ fe ft = J (e - j) := by
            cases ft with
            | none => exact fun h => J_ne_neg (k := e - j) (by omega) h.symm
            | some k => have := hft k rfl; unfold fe; rw [J_inj (by omega) (by omega)]; exact fun h => q2 (by rw [h])
          rw [if_neg q2, if_neg this]
          exact ih (i + 1) m (code + 1) (some 0) (by omega) (by omega) (fun k hk => by cases hk; omega)
      · rw [if_neg q, if_neg q]
        cases ft with
        | none =>
          rw [if_pos (show fe none < 0 by decide)]
          exact ih (i + 1) m code none (by omega) (by omega) (fun k hk => by cases hk)
        | some k =>
          have hk := hft k rfl
          have hno := ih (i + 1) m code none (by omega) (by omega) (fun k hk => by cases hk)
          dsimp only
          show (if J k < 0 then _ else if J (e - j) ≤ J k then _ else if ix (J j + J k) 400 then (if T 0 (J j + J k).toNatClampNeg = c then _ else _) else none) = _
          rw [if_neg (J_nn (by omega))]
          by_cases q2 : k < e - j
          · rw [if_neg (by rw [J_le (by omega) (by omega)]; omega), J_add, if_pos (J_ix (by omega) (by omega)), J_nat (by omega), hT _ (by omega)]
            by_cases q3 : tp (j + k) = c
            · rw [if_pos q3, if_pos ⟨q2, q3⟩, show fe (some k) + 1 = fe (some (k + 1)) from J_succ k]
              exact ih (i + 1) m code (some (k + 1)) (by omega) (by omega) (fun k' hk' => by cases hk'; omega)
            · rw [if_neg q3, if_neg (fun h => q3 h.2)]; exact hno
          · rw [if_pos (by rw [J_le (by omega) (by omega)]; omega), if_neg (fun h => q2 h.1)]; exact hno
  exact key 126 0 n 300 (some 0) (by omega) (by omega) (fun k hk => by cases hk; omega)
end PSPLIT
