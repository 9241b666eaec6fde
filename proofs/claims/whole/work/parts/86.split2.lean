section PSPLIT2
-- tokens
def te (tp : Nat → Int32) (len j : Nat) : Nat := if isL (tp j) then le_ tp len j else if isD (tp j) then de_ tp len j else j + 1
def cd (tp : Nat → Int32) (len j : Nat) : Int32 := if j < len then (if isL (tp j) then wcL wds 300 (slc tp j (le_ tp len j)) else if isD (tp j) then (if de_ tp len j - j ≤ 3 then 256 else 257) else tp j &&& 255) else 259
def vl (tp : Nat → Int32) (len j : Nat) : Int32 := if j < len ∧ isL (tp j) = false ∧ isD (tp j) = true ∧ de_ tp len j - j ≤ 3 then valS tp j (de_ tp len j - j) else 0
def st (tp : Nat → Int32) (len : Nat) : Nat → Nat
  | 0 => sk tp len 0
  | t + 1 => if st tp len t < len then sk tp len (te tp len (st tp len t)) else len
theorem st_succ (tp : Nat → Int32) {len t : Nat} (h : st tp len t < len) : st tp len (t + 1) = sk tp len (te tp len (st tp len t)) := by rw [st, if_pos h]
theorem te_le (tp : Nat → Int32) {len j : Nat} (h : j < len) : j < te tp len j ∧ te tp len j ≤ len := by
  unfold te
  split
  · rename_i q
    have := run_le isL tp (show j + 1 ≤ len by omega)
    have e := run_step isL tp h
    rw [q, if_pos rfl] at e
    show j < run isL tp len j ∧ run isL tp len j ≤ len
    omega
  · split
    · rename_i q
      have := run_le isD tp (show j + 1 ≤ len by omega)
      have e := run_step isD tp h
      rw [q, if_pos rfl] at e
      show j < run isD tp len j ∧ run isD tp len j ≤ len
      omega
    · omega
theorem stt_le (tp : Nat → Int32) (len : Nat) : ∀ t, st tp len t ≤ len
  | 0 => by rw [st]; exact (run_le isB tp (Nat.zero_le _)).2
  | t + 1 => by
    rw [st]
    split
    · rename_i h; exact (run_le isB tp (te_le tp h).2).2
    · omega
theorem st_nb (tp : Nat → Int32) (len : Nat) : ∀ t, st tp len t = len ∨ isB (tp (st tp len t)) = false
  | 0 => by rw [st]; exact run_at isB tp (Nat.zero_le _)
  | t + 1 => by
    rw [st]
    split
    · rename_i h; exact run_at isB tp (te_le tp h).2
    · exact .inl rfl
theorem byte_f {x : Int32} (h : isByte x) : isL (x &&& 255) = isL x ∧ isD (x &&& 255) = isD x ∧ isB (x &&& 255) = isB x ∧ (∃ k, k < 256 ∧ (x &&& 255) = J k) ∧ (∀ c, 0 ≤ c → c < 128 → ((x &&& 255) = c ↔ x = c)) := by
  have key : ∀ i : Nat, i < 256 → isL ((J i - 128) &&& 255) = isL (J i - 128) ∧ isD ((J i - 128) &&& 255) = isD (J i - 128) ∧ isB ((J i - 128) &&& 255) = isB (J i - 128) ∧ ((J i - 128) &&& 255) = J ((i + 128) % 256) := by decide +kernel
  have hx : x = J (x.toInt + 128).toNat - 128 := by
    obtain ⟨h1, h2⟩ := h
    apply Int32.toInt_inj.mp
    rw [Int32.toInt_sub, J_toInt (by omega), show (128 : Int32).toInt = 128 from by decide, Int.bmod_eq_of_le (by omega) (by omega)]; omega
  obtain ⟨h1, h2⟩ := h
  obtain ⟨i, hi⟩ : ∃ i, i = (x.toInt + 128).toNat := ⟨_, rfl⟩
  have hi2 : i < 256 := by omega
  rw [← hi] at hx
  rw [hx]
  obtain ⟨a, b, c, d⟩ := key i hi2
  refine ⟨a, b, c, ⟨_, by omega, d⟩, fun z hz1 hz2 => ?_⟩
  rw [d]
  rw [Int32.le_iff_toInt_le, show (0 : Int32).toInt = 0 from by decide] at hz1
  rw [Int32.lt_iff_toInt_lt, show (128 : Int32).toInt = 128 from by decide] at hz2
  have ez : z = J z.toInt.toNat := by apply Int32.toInt_inj.mp; rw [J_toInt (by omega)]; omega
  have ed : (J i - 128).toInt = (i : Int) - 128 := by rw [Int32.toInt_sub, J_toInt (by omega), show (128 : Int32).toInt = 128 from by decide, Int.bmod_eq_of_le (by omega) (by omega)]
  constructor
  · intro e
    rw [ez, J_inj (by omega) (by omega)] at e
    apply Int32.toInt_inj.mp
    rw [ed]; omega
  · intro e
    rw [← e] at hz1 hz2
    rw [ed] at hz1 hz2
    rw [← e]
    apply Int32.toInt_inj.mp
    rw [ed, J_toInt (by omega)]; omega
theorem letX (n : Nat) (x : Int32) : m_X10_isLetter n x = some (b2 (isL x)) := by
  unfold m_X10_isLetter isL
  simp only [jn_s, ← nlt_le x 97, ← nlt_le 122 x]
  by_cases a1 : x < 97 <;> by_cases a2 : 122 < x <;> simp [a1, a2, b2]
theorem digX (n : Nat) (x : Int32) : m_X10_isDigit n x = some (b2 (isD x)) := by
  unfold m_X10_isDigit isD
  simp only [jn_s, ← nlt_le x 48, ← nlt_le 57 x]
  by_cases a1 : x < 48 <;> by_cases a2 : 57 < x <;> simp [a1, a2, b2]
theorem runX {n : Nat} {T : St} {tp : Nat → Int32} {len : Nat} (hl : len ≤ 400) (hT : ∀ j, j < 400 → T 0 j = tp j) (P : Int32 → Bool) (F : Nat → Int32 → Option Int32) (hF : ∀ x, F n x = some (b2 (P x))) : ∀ d p m, p + d = len → d < m → lp (fun (rc3 : Int32 → Option (Int32)) (x3l : Int32) =>
(if (J len) ≤ x3l then
some x3l
else
(if ix x3l 400 then bd (F n (T 0 (x3l).toNatClampNeg)) (fun t5 =>
(if t5 = 0 then
some x3l
else
rc3 (x3l + 1))) else none))) m (J p) = some (J (run P tp len p))
  | 0, p, m, hd, hm => by
    obtain ⟨m, rfl⟩ : ∃ j, m = j + 1 := ⟨m - 1, by omega⟩
    rw [lp_succ, if_pos (by rw [J_le (by omega) (by omega)]; omega), run_ge _ _ (by omega)]
  | d + 1, p, m, hd, hm => by
    obtain ⟨m, rfl⟩ : ∃ j, m = j + 1 := ⟨m - 1, by omega⟩
    have ih := runX (n := n) hl hT P F hF d (p + 1) m (by omega) (by omega)
    rw [lp_succ, if_neg (by rw [J_le (by omega) (by omega)]; omega), if_pos (J_ix (by omega) (by omega)), J_nat (by omega), hT p (by omega), hF, bd_s, run_step _ _ (show p < len by omega), J_succ]
    cases P (tp p)
    · rw [if_pos (by decide), if_neg (by simp)]
    · rw [if_neg (by decide), if_pos rfl]; exact ih
theorem letEX {n : Nat} (hn : 5000 < n) {T : St} {tp : Nat → Int32} {len : Nat} (hl : len ≤ 400) (hT : ∀ j, j < 400 → T 0 j = tp j) {i : Nat} (hi : i < len) (h : isL (tp i) = true) : m_X10_lettersEnd n T (J i) (J len) = some (J (le_ tp len i)) := by
  unfold m_X10_lettersEnd
  rw [nm_s, J_succ, runX hl hT isL m_X10_isLetter (letX n) (len - (i + 1)) (i + 1) n (by omega) (by omega), bd_s, show le_ tp len i = run isL tp len (i + 1) from by show run isL tp len i = _; rw [run_step _ _ hi, h, if_pos rfl]]
theorem digEX {n : Nat} (hn : 5000 < n) {T : St} {tp : Nat → Int32} {len : Nat} (hl : len ≤ 400) (hT : ∀ j, j < 400 → T 0 j = tp j) {i : Nat} (hi : i < len) (h : isD (tp i) = true) : m_X10_digitsEnd n T (J i) (J len) = some (J (de_ tp len i)) := by
  unfold m_X10_digitsEnd
  rw [nm_s, J_succ, runX hl hT isD m_X10_isDigit (digX n) (len - (i + 1)) (i + 1) n (by omega) (by omega), bd_s, show de_ tp len i = run isD tp len (i + 1) from by show run isD tp len i = _; rw [run_step _ _ hi, h, if_pos rfl]]
theorem valX {n : Nat} (hn : 5000 < n) {T : St} {tp : Nat → Int32} (hT : ∀ j, j < 400 → T 0 j = tp j) {i e : Nat} (hi : i ≤ e) (he : e ≤ 400) : m_X10_valueOf n T (J i) (J e) = some (valS tp i (e - i)) := by
  unfold m_X10_valueOf valS
  refine lp_fold (fun k a => (a, J (i + k))) _ (fun a => a) 0 (e - i) (fun rc k a hk => ?_) (fun rc a => ?_) (by omega) rfl
  · simp (disch := omega) only [J_le, show ¬ e ≤ i + k from by omega, ↓reduceIte, ix_J, J_nat, nm_s, hT (i + k) (by omega), J_succ (i + k)]
    rfl
  · simp (disch := omega) only [J_le, show e ≤ i + (e - i) from by omega, ↓reduceIte]
theorem addX (n : Nat) {tok : St} {k : Nat} (hk : k < 401) (h : tok 3 0 = J k) (c v s : Int32) : m_X10_add n tok c v s = some (su (su (su (su tok 0 k c) 1 k v) 2 k s) 3 0 (J (k + 1))) := by
  unfold m_X10_add
  have e : ¬ (401 : Int32) ≤ J k := by rw [show (401 : Int32) = J 401 from rfl, J_le (by omega) (by omega)]; omega
  have e1 : su tok 0 k c 3 0 = J k := by rw [su_n _ _ _ _ (by decide)]; exact h
  have e2 : su (su tok 0 k c) 1 k v 3 0 = J k := by rw [su_n _ _ _ _ (by decide)]; exact e1
  have e3 : su (su (su tok 0 k c) 1 k v) 2 k s 3 0 = J k := by rw [su_n _ _ _ _ (by decide)]; exact e2
  simp (disch := omega) only [h, e, ↓reduceIte, ix_J, J_nat, nm_s, e1, e2, e3, J_succ k]
/-- the tokens of a text -/
def TKn (tok : St) (tp : Nat → Int32) (len k : Nat) : Prop := tok 3 0 = J k ∧ ∀ t, t < k → tok 0 t = cd tp len (st tp len t) ∧ tok 1 t = vl tp len (st tp len t) ∧ tok 2 t = J (st tp len t)
def TK (tok : St) (tp : Nat → Int32) (len N : Nat) : Prop := N ≤ len ∧ TKn tok tp len (N + 1) ∧ st tp len N = len ∧ ∀ t, t < N → st tp len t < len
theorem TKn.add {tok : St} {tp : Nat → Int32} {len k : Nat} (h : TKn tok tp len k) {c v s : Int32} (hc : c = cd tp len (st tp len k)) (hv : v = vl tp len (st tp len k)) (hs : s = J (st tp len k)) : TKn (su (su (su (su tok 0 k c) 1 k v) 2 k s) 3 0 (J (k + 1))) tp len (k + 1) := by
  refine ⟨by rw [su_e, upd_e], fun t ht => ?_⟩
  simp only [su_a, show ¬ ((0 : Nat) = 3) from by decide, show ¬ ((0 : Nat) = 2) from by decide, show ¬ ((0 : Nat) = 1) from by decide, show ¬ ((1 : Nat) = 3) from by decide, show ¬ ((1 : Nat) = 2) from by decide, show ¬ ((2 : Nat) = 3) from by decide, show ¬ ((1 : Nat) = 0) from by decide, show ¬ ((2 : Nat) = 1) from by decide, show ¬ ((2 : Nat) = 0) from by decide, if_true, if_false, upd_a]
  by_cases e : t = k
  · subst e; rw [if_pos rfl, if_pos rfl, if_pos rfl]; exact ⟨hc, hv, hs⟩
  · rw [if_neg e, if_neg e, if_neg e]; exact h.2 t (by omega)
theorem addFromX {n : Nat} (hn : 5000 < n) {tk T : St} {tp : Nat → Int32} {len : Nat} (hl : len ≤ 400) (hT : ∀ j, j < 400 → T 0 j = tp j) (hb : ∀ j, j < 400 → isByte (tp j)) {i k : Nat} (q : i < len) (hk : k ≤ i) (hsk : sk tp len i = st tp len k) (hTK : TKn tk tp len k) (hlt : ∀ t, t < k → st tp len t < len) : Ok (m_X10_addFrom n tk T (J i) (J len)) (fun r => ∃ e k', r.1 = J e ∧ i < e ∧ e ≤ len ∧ k' ≤ e ∧ sk tp len e = st tp len k' ∧ TKn r.2 tp len k' ∧ ∀ t, t < k' → st tp len t < len) := by
  have hi : i ≤ len := by omega
  have hbi := byte_f (hb i (by omega))
  have ih' : ∀ i' k' tk', i < i' → i' ≤ len → k' ≤ i' → sk tp len i' = st tp len k' → TKn tk' tp len k' → (∀ t, t < k' → st tp len t < len) → Ok (some (J i', tk')) (fun (r : Int32 × St) => ∃ e k', r.1 = J e ∧ i < e ∧ e ≤ len ∧ k' ≤ e ∧ sk tp len e = st tp len k' ∧ TKn r.2 tp len k' ∧ ∀ t, t < k' → st tp len t < len) := fun i' k' tk' a b c d e f => ok_some ⟨i', k', rfl, a, b, c, d, e, f⟩
  unfold m_X10_addFrom
  simp (disch := omega) only [↓reduceIte, ix_J, J_nat, nm_s, hT i (by omega), letX, digX, hbi.1, hbi.2.1, bd_s, J_succ i]
  have hte := te_le tp q
  by_cases qB : tp i = 32
  · have e1 : isL (tp i) = false := by rw [qB]; decide
    have e2 : isD (tp i) = false := by rw [qB]; decide
    have e3 : (tp i &&& 255) = 32 := by rw [qB]; decide
    rw [e1, e2, e3, if_pos (by decide), if_pos (by decide), if_pos rfl, bd_s]
    refine ih' (i + 1) k tk (by omega) (by omega) (by omega) ?_ hTK hlt
    rw [← hsk]
    show run isB tp len (i + 1) = run isB tp len i
    rw [run_step isB tp q, if_pos (by unfold isB; rw [qB]; rfl)]
  · have hni : isB (tp i) = false := by unfold isB; rw [decide_eq_false qB]
    have hst : st tp len k = i := by rw [← hsk]; exact run_id isB tp (.inr hni) hi
    have hnext : sk tp len (te tp len i) = st tp len (k + 1) := by rw [st_succ tp (by rw [hst]; exact q), hst]
    have hlt' : ∀ t, t < k + 1 → st tp len t < len := fun t ht => by
      by_cases e : t = k
      · rw [e, hst]; exact q
      · exact hlt t (by omega)
    have h3 := hTK.1
    by_cases qL : isL (tp i) = true
    · have hwc : cd tp len i = wcL wds 300 (slc tp i (le_ tp len i)) := by unfold cd; rw [if_pos q, if_pos qL]
      have hte2 : te tp len i = le_ tp len i := by unfold te; rw [if_pos qL]
      rw [hte2] at hte hnext
      rw [qL, if_neg (by decide), letEX hn hl hT q qL, bd_s, wordX hn hT (by omega) (by omega), bd_s, addX n (by omega) h3, bd_s]
      refine ih' _ (k + 1) _ hte.1 hte.2 (by omega) hnext (hTK.add ?_ ?_ ?_) hlt'
      · rw [hst, hwc]
      · rw [hst]; unfold vl; rw [if_neg (by rw [qL]; simp)]
      · rw [hst]
    · have qL' : isL (tp i) = false := by simpa using qL
      rw [qL', if_pos (by decide)]
      by_cases qD : isD (tp i) = true
      · have hte2 : te tp len i = de_ tp len i := by unfold te; rw [if_neg qL, if_pos qD]
        rw [hte2] at hte hnext
        rw [qD, if_neg (by decide), digEX hn hl hT q qD, bd_s, J_sub (by omega)]
        by_cases q3 : de_ tp len i - i ≤ 3
        · rw [if_pos (by rw [show (3 : Int32) = J 3 from rfl, J_le (by omega) (by omega)]; exact q3), bd_s, if_pos rfl, bd_s, if_pos rfl, valX hn hT (by omega) (by omega), bd_s, bd_s, addX n (by omega) h3, bd_s]
          refine ih' _ (k + 1) _ hte.1 hte.2 (by omega) hnext (hTK.add ?_ ?_ ?_) hlt'
          · rw [hst]; unfold cd; rw [if_pos q, if_neg qL, if_pos qD, if_pos q3]
          · rw [hst]; unfold vl; rw [if_pos ⟨q, qL', qD, q3⟩]
          · rw [hst]
        · rw [if_neg (by rw [show (3 : Int32) = J 3 from rfl, J_le (by omega) (by omega)]; exact q3), bd_s, if_neg (by decide), bd_s, if_neg (by decide), bd_s, addX n (by omega) h3, bd_s]
          refine ih' _ (k + 1) _ hte.1 hte.2 (by omega) hnext (hTK.add ?_ ?_ ?_) hlt'
          · rw [hst]; unfold cd; rw [if_pos q, if_neg qL, if_pos qD, if_neg q3]
          · rw [hst]; unfold vl; rw [if_neg (fun h => q3 h.2.2.2)]
          · rw [hst]
      · have qD' : isD (tp i) = false := by simpa using qD
        have hte2 : te tp len i = i + 1 := by unfold te; rw [if_neg qL, if_neg qD]
        rw [hte2] at hte hnext
        have q32 : ¬ (tp i &&& 255) = 32 := fun e => qB ((hbi.2.2.2.2 32 (by decide) (by decide)).mp e)
        rw [qD', if_pos (by decide), if_neg q32, addX n (by omega) h3, bd_s, bd_s]
        refine ih' _ (k + 1) _ hte.1 hte.2 (by omega) hnext (hTK.add ?_ ?_ ?_) hlt'
        · rw [hst]; unfold cd; rw [if_pos q, if_neg qL, if_neg qD]
        · rw [hst]; unfold vl; rw [if_neg (fun h => qD h.2.2.1)]
        · rw [hst]
theorem splitX {n : Nat} (hn : 5000 < n) {tok T : St} {tp : Nat → Int32} {len : Nat} (hl : len ≤ 400) (hT : ∀ j, j < 400 → T 0 j = tp j) (hb : ∀ j, j < 400 → isByte (tp j)) : Ok (m_X10_split n tok T (J len)) (fun r => ∃ N, TK r tp len N) := by
  unfold m_X10_split
  rw [nm_s]
  refine ok_bd2 (P := fun r => ∃ k, k ≤ len ∧ st tp len k = len ∧ TKn r tp len k ∧ ∀ t, t < k → st tp len t < len) ?_ ?_
  · refine ok_lp (μ := fun x => len - x.2.1.toNatClampNeg) (I := fun x => ∃ b i k, x.1 = J b ∧ x.2.1 = J i ∧ i ≤ b ∧ b ≤ len ∧ k ≤ b ∧ sk tp len b = st tp len k ∧ TKn x.2.2 tp len k ∧ ∀ t, t < k → st tp len t < len) ?_ n _ ⟨0, 0, 0, rfl, rfl, Nat.le_refl _, Nat.zero_le _, Nat.le_refl _, by rw [st], ⟨by dsimp only; rw [su_e, upd_e]; rfl, fun t ht => absurd ht (by omega)⟩, fun t ht => absurd ht (by omega)⟩ ?_
    · rintro rc ⟨y, x, tk⟩ ⟨b, i, k, hy, hx, hib, hbl, hk, hsk, hTK, hlt⟩ ih
      dsimp only at hy hx hTK
      subst hy
      subst hx
      by_cases q : i < len
      · have ih' : ∀ b' k' tk', i + 1 ≤ b' → b' ≤ len → k' ≤ b' → sk tp len b' = st tp len k' → TKn tk' tp len k' → (∀ t, t < k' → st tp len t < len) → Ok (rc (J b', J (i + 1), tk')) (fun r => ∃ k, k ≤ len ∧ st tp len k = len ∧ TKn r tp len k ∧ ∀ t, t < k → st tp len t < len) := fun b' k' tk' a b c d e f => ih (J b', J (i + 1), tk') ⟨b', i + 1, k', rfl, rfl, a, b, c, d, e, f⟩ (by show len - (J (i + 1)).toNatClampNeg < len - (J i).toNatClampNeg; rw [J_nat (by omega), J_nat (by omega)]; omega)
        dsimp only
        rw [if_neg (by rw [J_le (by omega) (by omega)]; omega), J_succ i]
        by_cases qb : i < b
        · rw [if_pos (by rw [J_lt (by omega) (by omega)]; exact qb), bd_s]
          exact ih' b k tk (by omega) hbl hk hsk hTK hlt
        · have hbi : b = i := by omega
          subst hbi
          rw [if_neg (by rw [J_lt (by omega) (by omega)]; omega)]
          have ha := addFromX hn hl hT hb q hk hsk hTK hlt
          refine ok_bd2 (P := fun (r : Int32 × St) => ∃ e k', r.1 = J e ∧ b < e ∧ e ≤ len ∧ k' ≤ e ∧ sk tp len e = st tp len k' ∧ TKn r.2 tp len k' ∧ ∀ t, t < k' → st tp len t < len) ?_ ?_
          · refine ok_bd2 ha ?_
            rintro ⟨r1, r2⟩ h
            exact ok_some h
          · rintro ⟨r1, r2⟩ ⟨e, k', h1, h2, h3, h4, h5, h6, h7⟩
            dsimp only at h1 h6
            subst h1
            exact ih' e k' r2 (by omega) h3 h4 h5 h6 h7
      · have hil : i = len := by omega
        have hbl' : b = len := by omega
        dsimp only
        rw [if_pos (by rw [J_le (by omega) (by omega)]; omega)]
        refine ok_some ⟨k, by omega, ?_, hTK, hlt⟩
        rw [← hsk, hbl']; exact run_ge isB tp (Nat.le_refl _)
    · show len - (J 0).toNatClampNeg < n
      rw [J_nat (by omega)]; omega
  · rintro tk ⟨k, hk, hst, hTK, hlt⟩
    rw [addX n (by omega) hTK.1, bd_s]
    refine ok_some ⟨k, hk, hTK.add ?_ ?_ ?_, hst, hlt⟩
    · rw [hst]; unfold cd; rw [if_neg (by omega)]
    · rw [hst]; unfold vl; rw [if_neg (fun h => by omega)]
    · rw [hst]
end PSPLIT2
