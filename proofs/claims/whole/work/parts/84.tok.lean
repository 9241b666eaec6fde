section PTOK
-- two sides at once
def Ok2 {α β : Type} (x : Option α) (y : Option β) (Q : α → β → Prop) : Prop := ∃ a b, x = some a ∧ y = some b ∧ Q a b
theorem ok2_some {α β : Type} {a : α} {b : β} {Q : α → β → Prop} (h : Q a b) : Ok2 (some a) (some b) Q := ⟨a, b, rfl, rfl, h⟩
theorem ok2_bd {α β α' β' : Type} {x : Option α} {y : Option β} {f : α → Option α'} {g : β → Option β'} {P : α → β → Prop} {Q : α' → β' → Prop} (h : Ok2 x y P) (k : ∀ a b, P a b → Ok2 (f a) (g b) Q) : Ok2 (bd x f) (bd y g) Q := by
  obtain ⟨a, b, rfl, rfl, hp⟩ := h; exact k a b hp
theorem ok2_l {α β α' : Type} {x : Option α} {y : Option β} {f : α → Option α'} {P : α → Prop} {Q : α' → β → Prop} (h : Ok x P) (k : ∀ a, P a → Ok2 (f a) y Q) : Ok2 (bd x f) y Q := by
  obtain ⟨a, rfl, hp⟩ := h; exact k a hp
theorem ok2_r {α β β' : Type} {x : Option α} {y : Option β} {g : β → Option β'} {P : β → Prop} {Q : α → β' → Prop} (h : Ok y P) (k : ∀ b, P b → Ok2 x (g b) Q) : Ok2 x (bd y g) Q := by
  obtain ⟨a, rfl, hp⟩ := h; exact k a hp
theorem Ok2.mono {α β : Type} {x : Option α} {y : Option β} {P Q : α → β → Prop} (h : Ok2 x y P) (k : ∀ a b, P a b → Q a b) : Ok2 x y Q := by
  obtain ⟨a, b, e1, e2, hp⟩ := h; exact ⟨a, b, e1, e2, k a b hp⟩
theorem ok2_lp {σ ρ σ' ρ' : Type} {bC : (σ → Option ρ) → σ → Option ρ} {bR : (σ' → Option ρ') → σ' → Option ρ'} {Q : ρ → ρ' → Prop} (I : Nat → σ → σ' → Prop)
    (step : ∀ (rC : σ → Option ρ) (rR : σ' → Option ρ') (m : Nat) (x : σ) (y : σ'), I m x y → (∀ m' x' y', m' < m → I m' x' y' → Ok2 (rC x') (rR y') Q) → Ok2 (bC rC x) (bR rR y) Q) : ∀ (nC nR m : Nat) (x : σ) (y : σ'), I m x y → m < nC → m < nR → Ok2 (lp bC nC x) (lp bR nR y) Q
  | 0, _, _, _, _, _, h, _ => absurd h (Nat.not_lt_zero _)
  | _ + 1, 0, _, _, _, _, _, h => absurd h (Nat.not_lt_zero _)
  | nC + 1, nR + 1, m, x, y, hI, h1, h2 => step (lp bC nC) (lp bR nR) m x y hI (fun m' x' y' hm hI' => ok2_lp I step nC nR m' x' y' hI' (by omega) (by omega))
-- runs in a text
def rE (P : Int32 → Bool) (tp : Nat → Int32) : Nat → Nat → Nat
  | 0, i => i
  | d + 1, i => if P (tp i) then rE P tp d (i + 1) else i
def run (P : Int32 → Bool) (tp : Nat → Int32) (len i : Nat) : Nat := rE P tp (len - i) i
theorem run_ge (P : Int32 → Bool) (tp : Nat → Int32) {len i : Nat} (h : len ≤ i) : run P tp len i = i := by
  unfold run; rw [show len - i = 0 from by omega, rE]
theorem run_step (P : Int32 → Bool) (tp : Nat → Int32) {len i : Nat} (h : i < len) : run P tp len i = if P (tp i) then run P tp len (i + 1) else i := by
  unfold run; rw [show len - i = (len - (i + 1)) + 1 from by omega, rE]
theorem rE_le (P : Int32 → Bool) (tp : Nat → Int32) : ∀ d i, i ≤ rE P tp d i ∧ rE P tp d i ≤ i + d
  | 0, i => by rw [rE]; omega
  | d + 1, i => by
    have := rE_le P tp d (i + 1)
    rw [rE]; split <;> omega
theorem run_le (P : Int32 → Bool) (tp : Nat → Int32) {len i : Nat} (h : i ≤ len) : i ≤ run P tp len i ∧ run P tp len i ≤ len := by
  have := rE_le P tp (len - i) i
  unfold run; omega
theorem rE_at (P : Int32 → Bool) (tp : Nat → Int32) : ∀ d i, rE P tp d i = i + d ∨ P (tp (rE P tp d i)) = false
  | 0, i => .inl (by rw [rE]; omega)
  | d + 1, i => by
    rw [rE]
    by_cases h : P (tp i) = true
    · rw [if_pos h]
      rcases rE_at P tp d (i + 1) with q | q
      · exact .inl (by omega)
      · exact .inr q
    · rw [if_neg h]; exact .inr (by simpa using h)
theorem run_at (P : Int32 → Bool) (tp : Nat → Int32) {len i : Nat} (h : i ≤ len) : run P tp len i = len ∨ P (tp (run P tp len i)) = false := by
  rcases rE_at P tp (len - i) i with q | q
  · exact .inl (by unfold run; omega)
  · exact .inr q
theorem run_id (P : Int32 → Bool) (tp : Nat → Int32) {len i : Nat} (h : i = len ∨ P (tp i) = false) (hi : i ≤ len) : run P tp len i = i := by
  by_cases q : i < len
  · rw [run_step P tp q]
    rcases h with h | h
    · omega
    · rw [if_neg (by rw [h]; simp)]
  · exact run_ge P tp (by omega)
theorem run_idem (P : Int32 → Bool) (tp : Nat → Int32) {len i : Nat} (h : i ≤ len) : run P tp len (run P tp len i) = run P tp len i := run_id P tp (run_at P tp h) (run_le P tp h).2
theorem run_congr {P : Int32 → Bool} {tp tq : Nat → Int32} : ∀ (d i : Nat), (∀ k, i ≤ k → k < i + d → tp k = tq k) → rE P tp d i = rE P tq d i
  | 0, _, _ => by rw [rE, rE]
  | d + 1, i, h => by
    rw [rE, rE, h i (by omega) (by omega), run_congr d (i + 1) (fun k a b => h k (by omega) (by omega))]
def isB (x : Int32) : Bool := decide (x = 32)
def isL (x : Int32) : Bool := decide (97 ≤ x ∧ x ≤ 122)
def isD (x : Int32) : Bool := decide (48 ≤ x ∧ x ≤ 57)
abbrev sk (tp : Nat → Int32) (len i : Nat) : Nat := run isB tp len i
abbrev le_ (tp : Nat → Int32) (len i : Nat) : Nat := run isL tp len i
abbrev de_ (tp : Nat → Int32) (len i : Nat) : Nat := run isD tp len i
-- the reference's pointer
def PB (V : St) (p b : Nat) : St := su (su V 10 0 (J p)) 12 0 (J b)
theorem su_su (V : St) (f k : Nat) (x y : Int32) : su (su V f k x) f k y = su V f k y := by
  funext g
  by_cases h : g = f
  · subst h; rw [su_e, su_e, su_e, upd_upd]
  · rw [su_n _ _ _ _ h, su_n _ _ _ _ h, su_n _ _ _ _ h]
theorem su_comm (V : St) {f g : Nat} (h : f ≠ g) (k j : Nat) (x y : Int32) : su (su V f k x) g j y = su (su V g j y) f k x := by
  funext z
  by_cases h1 : z = f
  · subst h1; rw [su_n _ _ _ _ h, su_e, su_e, su_n _ _ _ _ h]
  · by_cases h2 : z = g
    · subst h2; rw [su_e, su_n _ _ _ _ (Ne.symm h), su_n _ _ _ _ h1, su_e]
    · rw [su_n _ _ _ _ h2, su_n _ _ _ _ h1, su_n _ _ _ _ h1, su_n _ _ _ _ h2]
theorem PB_PB (V : St) (p b p' b' : Nat) : PB (PB V p b) p' b' = PB V p' b' := by
  unfold PB
  rw [su_comm _ (f := 12) (g := 10) (by decide), su_su, su_su]
theorem PB_p (V : St) (p b : Nat) : PB V p b 10 0 = J p := by unfold PB; rw [su_n _ _ _ _ (by decide), su_e, upd_e]
theorem PB_b (V : St) (p b : Nat) : PB V p b 12 0 = J b := by unfold PB; rw [su_e, upd_e]
theorem PB_n (V : St) (p b : Nat) {f : Nat} (h1 : f ≠ 10) (h2 : f ≠ 12) : PB V p b f = V f := by unfold PB; rw [su_n _ _ _ _ h2, su_n _ _ _ _ h1]
theorem su_PB (V : St) (p b : Nat) {f : Nat} (h1 : f ≠ 10) (h2 : f ≠ 12) (k : Nat) (x : Int32) : su (PB V p b) f k x = PB (su V f k x) p b := by
  unfold PB
  rw [su_comm _ (f := 12) (g := f) (Ne.symm h2), su_comm _ (f := 10) (g := f) (Ne.symm h1)]
theorem PB_10 (V : St) (p b q : Nat) : su (PB V p b) 10 0 (J q) = PB V q b := by
  unfold PB; rw [su_comm _ (f := 12) (g := 10) (by decide), su_su]
theorem PB_12 (V : St) (p b q : Nat) : su (PB V p b) 12 0 (J q) = PB V p q := by
  unfold PB; rw [su_su]
theorem PB_id (V : St) {p b : Nat} (h1 : V 10 0 = J p) (h2 : V 12 0 = J b) : PB V p b = V := by
  unfold PB
  have e1 : su V 10 0 (J p) = V := by rw [su_is, upd_same _ h1, sA_id]
  rw [e1, su_is, upd_same _ h2, sA_id]
/-- the text that is read -/
def TX (V : St) (len : Nat) : Prop := len ≤ 400 ∧ V 11 0 = J len
theorem isAtR (n : Nat) {V : St} {len : Nat} (h : TX V len) {p b : Nat} (hp : p ≤ len) (x y : Int32) : m_X12_isAt n (PB V p b) x y = some (b2 (decide (p < len ∧ x ≤ V 8 p ∧ V 8 p ≤ y))) := by
  have hl := h.1
  unfold m_X12_isAt
  rw [PB_p, PB_n V p b (f := 11) (by decide) (by decide), PB_n V p b (f := 8) (by decide) (by decide), h.2]
  simp only [jn_s]
  by_cases q : p < len
  · simp (disch := omega) only [J_le, Nat.not_le.mpr q, ix_J, J_nat, ↓reduceIte, q, true_and]
    simp only [← nlt_le (V 8 p) x, ← nlt_le y (V 8 p)]
    by_cases a1 : V 8 p < x <;> by_cases a2 : y < V 8 p <;> simp [a1, a2, b2]
  · rw [if_pos (by rw [J_le (by omega) (by omega)]; omega), decide_eq_false (fun h => q h.1)]; rfl
theorem runR {n : Nat} (hn : 5000 < n) {V : St} {len : Nat} (h : TX V len) (x y : Int32) (P : Int32 → Bool) (hP : ∀ z, P z = decide (x ≤ z ∧ z ≤ y)) (b : Nat) : ∀ d p m, p + d = len → d < m → lp (fun (rc3 : St → Option (St)) (x3l : St) =>
bd (m_X12_isAt n x3l x y) (fun t4 =>
(if t4 = 0 then
some x3l
else
nm (su x3l 10 0 ((x3l 10 0) + 1)) (fun u5 =>
rc3 u5)))) m (PB V p b) = some (PB V (run P (V 8) len p) b)
  | 0, p, m, hd, hm => by
    obtain ⟨m, rfl⟩ : ∃ j, m = j + 1 := ⟨m - 1, by omega⟩
    rw [lp_succ, isAtR n h (by omega), bd_s, decide_eq_false (by omega), if_pos (by decide), run_ge _ _ (by omega)]
  | d + 1, p, m, hd, hm => by
    obtain ⟨m, rfl⟩ : ∃ j, m = j + 1 := ⟨m - 1, by omega⟩
    have ih := runR hn h x y P hP b d (p + 1) m (by omega) (by omega)
    rw [lp_succ, isAtR n h (by omega), bd_s, run_step _ _ (show p < len by omega), hP]
    by_cases q : x ≤ V 8 p ∧ V 8 p ≤ y
    · rw [decide_eq_true q, decide_eq_true (⟨by omega, q⟩ : p < len ∧ _), if_neg (by decide), if_pos rfl, nm_s, PB_p, J_succ, PB_10]
      exact ih
    · rw [decide_eq_false q, decide_eq_false (fun h => q h.2), if_pos (by decide), if_neg (by simp)]
theorem isB_hP (z : Int32) : isB z = decide (32 ≤ z ∧ z ≤ 32) := by
  unfold isB
  by_cases h : z = 32
  · subst h; decide
  · rw [decide_eq_false h, decide_eq_false (fun q => h (by grind))]
theorem blanksR {n : Nat} (hn : 5000 < n) {V : St} {len : Nat} (h : TX V len) {p b : Nat} (hp : p ≤ len) : m_X12_blanks n (PB V p b) = some (PB V (sk (V 8) len p) (sk (V 8) len p)) := by
  have hl := h.1
  unfold m_X12_blanks
  rw [runR hn h 32 32 isB isB_hP b (len - p) p n (by omega) (by omega), bd_s, nm_s, PB_p, PB_12]
theorem lettersR {n : Nat} (hn : 5000 < n) {V : St} {len : Nat} (h : TX V len) {p b : Nat} (hp : p ≤ len) : m_X12_letters n (PB V p b) = some (PB V (le_ (V 8) len (sk (V 8) len p)) (sk (V 8) len p)) := by
  have hl := h.1
  have : sk (V 8) len p ≤ len := (run_le isB (V 8) hp).2
  unfold m_X12_letters
  rw [blanksR hn h hp, bd_s, runR hn h 97 122 isL (fun z => rfl) _ (len - sk (V 8) len p) (sk (V 8) len p) n (by omega) (by omega)]
theorem signR {n : Nat} (hn : 5000 < n) {V : St} {len : Nat} (h : TX V len) {p b : Nat} (hp : p ≤ len) (c : Int32) : m_X12_sign n (PB V p b) c = some (if sk (V 8) len p < len ∧ V 8 (sk (V 8) len p) = c then (1, PB V (sk (V 8) len p + 1) (sk (V 8) len p)) else (0, PB V (sk (V 8) len p) (sk (V 8) len p))) := by
  have := (run_le isB (V 8) hp).2
  unfold m_X12_sign
  rw [blanksR hn h hp, bd_s, isAtR n h this, bd_s]
  by_cases q : sk (V 8) len p < len ∧ V 8 (sk (V 8) len p) = c
  · rw [if_pos q, decide_eq_true (⟨q.1, by grind, by grind⟩ : _ ∧ c ≤ _ ∧ _ ≤ c), if_neg (by decide), nm_s, PB_p, J_succ, PB_10]
  · rw [if_neg q, decide_eq_false (fun h => q ⟨h.1, by grind⟩), if_pos (by decide)]
-- words
def slc (tp : Nat → Int32) (j e : Nat) : List Int32 := (List.range (e - j)).map (fun k => tp (j + k))
theorem slc_len (tp : Nat → Int32) (j e : Nat) : (slc tp j e).length = e - j := by unfold slc; simp
theorem slc_get (tp : Nat → Int32) {j e k : Nat} (h : k < e - j) : (slc tp j e).getD k 0 = tp (j + k) := by
  unfold slc; simp [List.getD_eq_getElem?_getD, h]
def wd (s : Nat) : List Int32 := sByt.getD s []
theorem wd_len : ∀ s, s < 26 → (wd s).length = sLen.getD s 0 ∧ ∀ c ∈ wd s, c &&& 255 = c := by decide +kernel
theorem list_ext0 : ∀ {l m : List Int32}, l.length = m.length → (∀ k, k < l.length → l.getD k 0 = m.getD k 0) → l = m
  | [], [], _, _ => rfl
  | a :: l, b :: m, h, g => by
    have h0 := g 0 (by simp)
    simp at h0
    rw [h0, list_ext0 (l := l) (m := m) (by simpa using h) (fun k hk => by have := g (k + 1) (by simp; omega); simpa using this)]
theorem wd_255 {s : Nat} (hs : s < 26) {k : Nat} (hk : k < (wd s).length) : s_ch s (J k) = (wd s).getD k 0 := by
  have hl := (wd_len s hs).1
  have hb : ∀ s : Nat, s < 26 → sLen.getD s 0 ≤ 126 := by decide +kernel
  have := hb s hs
  unfold s_ch
  rw [J_nat (by omega)]
  have hm : (wd s).getD k 0 ∈ wd s := by
    rw [List.getD_eq_getElem?_getD, List.getElem?_eq_getElem hk]; exact List.getElem_mem hk
  exact (wd_len s hs).2 _ hm
theorem isWordR {n : Nat} (hn : 5000 < n) {V : St} {len : Nat} (h : TX V len) {j e : Nat} (hj : j ≤ e) (he : e ≤ len) {s : Nat} (hs : s < 26) : m_X12_isWord n (PB V e j) s = some (b2 (decide (slc (V 8) j e = wd s))) := by
  have hl := h.1
  have hw := (wd_len s hs).1
  have hb : ∀ s : Nat, s < 26 → sLen.getD s 0 ≤ 126 := by decide +kernel
  have hb' := hb s hs
  unfold m_X12_isWord
  rw [if_pos hs, PB_p, PB_b, PB_n V e j (f := 8) (by decide) (by decide), J_sub hj, ← hw]
  have e0 : (if J (e - j) = Int32.ofNat (wd s).length then some 1 else some 0 : Option Int32) = some (b2 (decide (e - j = (wd s).length))) := by
    by_cases q : e - j = (wd s).length
    · rw [decide_eq_true q, if_pos (by rw [q])]; rfl
    · rw [decide_eq_false q, if_neg (by rw [J_inj (by omega) (by omega)]; exact q)]; rfl
  rw [e0, bd_s]
  by_cases hc : e - j = (wd s).length
  · rw [decide_eq_true hc]
    refine (congrArg (fun x => bd x _) (lp_flag (fun k a => (a, J k)) (fun k => decide (V 8 (j + k) = (wd s).getD k 0)) (wd s).length (fun a => a) (fun rc k hk => ?_) (fun rc k hk => ?_) (fun rc b => ?_) (by omega) true rfl)).trans ?_
    · have e1 : ¬ Int32.ofNat (wd s).length ≤ J k := by rw [J_le (by omega) (by omega)]; omega
      simp (disch := omega) only [show ¬ ((1 : Int32) = 0) from by decide, hs, e1, ↓reduceIte, J_add, ix_J, J_nat, wd_255 hs hk, J_succ k]
      by_cases q : V 8 (j + k) = (wd s).getD k 0
      · rw [if_pos q, decide_eq_true q, bd_s]; rfl
      · rw [if_neg q, decide_eq_false q, bd_s]; rfl
    · rw [if_pos rfl]
    · have e1 : Int32.ofNat (wd s).length ≤ J (wd s).length := by rw [J_le (by omega) (by omega)]; omega
      simp only [hs, e1, ↓reduceIte]
      split <;> rfl
    · rw [bd_s, if_pos (isb_b2 _), Bool.true_and]
      congr 2
      rw [Bool.eq_iff_iff, allN_iff, decide_eq_true_eq]
      constructor
      · intro g
        refine list_ext0 (by rw [slc_len, hc]) (fun k hk => ?_)
        rw [slc_len] at hk
        rw [slc_get _ hk]
        have := g k (by omega)
        simpa using this
      · intro g k hk
        rw [decide_eq_true_eq, ← g, slc_get _ (by omega)]
  · rw [decide_eq_false hc]
    have hne : ¬ slc (V 8) j e = wd s := fun g => hc (by rw [← g, slc_len])
    rw [decide_eq_false hne]
    obtain ⟨m, rfl⟩ : ∃ m, n = m + 1 := ⟨n - 1, by omega⟩
    rw [lp_succ]
    rfl
end PTOK
