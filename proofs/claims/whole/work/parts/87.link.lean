section PLINK
def CXt (tok V : St) (len N : Nat) : Prop := TX V len ∧ TK tok (V 8) len N ∧ ∀ j, j < 400 → isByte (V 8 j)
theorem CXt.eq {tok V V' : St} {len N : Nat} (h : CXt tok V len N) (h8 : V' 8 = V 8) (h11 : V' 11 0 = V 11 0) : CXt tok V' len N := by
  obtain ⟨⟨a, b⟩, c, d⟩ := h
  exact ⟨⟨a, by rw [h11]; exact b⟩, by rw [h8]; exact c, by rw [h8]; exact d⟩
def JC (V : St) (len p t : Nat) : Prop := p ≤ len ∧ sk (V 8) len p = st (V 8) len t
theorem JC.st (V : St) (len t : Nat) : JC V len (st (V 8) len t) t := ⟨stt_le _ _ _, run_id isB (V 8) (st_nb _ _ _) (stt_le _ _ _)⟩
abbrev RT (R : St) (t : Nat) : St := su R 2 0 (J t)
theorem RT_RT (R : St) (t u : Nat) : su (RT R t) 2 0 (J u) = RT R u := su_su _ _ _ _ _
theorem RT_at (R : St) (t : Nat) : RT R t 2 0 = J t := by show su R 2 0 (J t) 2 0 = _; rw [su_e, upd_e]
-- the class at a token
theorem codeX (n : Nat) {tok : St} {tp : Nat → Int32} {len N : Nat} (hl : len ≤ 400) (h : TK tok tp len N) {t : Nat} (ht : t ≤ N) : m_X10_code n tok (J t) = some (cd tp len (st tp len t)) := by
  have hN := h.1
  unfold m_X10_code
  simp only [jn_s]
  rw [h.2.1.1, if_neg (J_nn (by omega)), if_neg (by rw [J_le (by omega) (by omega)]; omega), if_pos (J_ix (by omega) (by omega)), J_nat (by omega), (h.2.1.2 t (by omega)).1]
theorem valueX (n : Nat) {tok : St} {tp : Nat → Int32} {len N : Nat} (hl : len ≤ 400) (h : TK tok tp len N) {t : Nat} (ht : t ≤ N) : m_X10_value n tok (J t) = some (vl tp len (st tp len t)) := by
  have hN := h.1
  unfold m_X10_value
  simp only [jn_s]
  rw [h.2.1.1, if_neg (J_nn (by omega)), if_neg (by rw [J_le (by omega) (by omega)]; omega), if_pos (J_ix (by omega) (by omega)), J_nat (by omega), (h.2.1.2 t (by omega)).2.1]
theorem startX (n : Nat) {tok : St} {tp : Nat → Int32} {len N : Nat} (hl : len ≤ 400) (h : TK tok tp len N) {t : Nat} (ht : t ≤ N) : m_X10_start n tok (J t) = some (J (st tp len t)) := by
  have hN := h.1
  unfold m_X10_start
  simp only [jn_s]
  rw [h.2.1.1, if_neg (J_nn (by omega)), if_neg (by rw [J_le (by omega) (by omega)]; omega), if_pos (J_ix (by omega) (by omega)), J_nat (by omega), (h.2.1.2 t (by omega)).2.2]
theorem skip4 (n : Nat) {tok : St} {tp : Nat → Int32} {len N : Nat} (hl : len ≤ 400) (h : TK tok tp len N) {t : Nat} (ht : t ≤ N) (R X : St) (c : Int32) : m_X9_skip_X4 n (RT R t) tok X c = some (if cd tp len (st tp len t) = c then (1, RT R (t + 1)) else (0, RT R t)) := by
  have hN := h.1
  unfold m_X9_skip_X4
  rw [RT_at, h.2.1.1, if_neg (by rw [J_le (by omega) (by omega)]; omega), if_pos (J_ix (by omega) (by omega)), J_nat (by omega), (h.2.1.2 t (by omega)).1, nm_s, J_succ, RT_RT]
  split <;> rfl
theorem skip6 (n : Nat) {tok : St} {tp : Nat → Int32} {len N : Nat} (hl : len ≤ 400) (h : TK tok tp len N) {t : Nat} (ht : t ≤ N) (R X : St) (c : Int32) : m_X9_skip_X6 n (RT R t) tok X c = some (if cd tp len (st tp len t) = c then (1, RT R (t + 1)) else (0, RT R t)) := by
  have hN := h.1
  unfold m_X9_skip_X6
  rw [RT_at, h.2.1.1, if_neg (by rw [J_le (by omega) (by omega)]; omega), if_pos (J_ix (by omega) (by omega)), J_nat (by omega), (h.2.1.2 t (by omega)).1, nm_s, J_succ, RT_RT]
  split <;> rfl
abbrev nOK (tp : Nat → Int32) (len j : Nat) (lo hi : Int32) : Prop := cd tp len j = 256 ∧ lo ≤ vl tp len j ∧ vl tp len j ≤ hi
theorem num4 (n : Nat) {tok : St} {tp : Nat → Int32} {len N : Nat} (hl : len ≤ 400) (h : TK tok tp len N) {t : Nat} (ht : t ≤ N) (R X : St) (lo hi : Int32) : m_X9_number_X4 n (RT R t) tok X lo hi = some (if nOK tp len (st tp len t) lo hi then (vl tp len (st tp len t), RT R (t + 1)) else (-1, RT R t)) := by
  unfold m_X9_number_X4 nOK
  rw [RT_at, valueX n hl h ht, bd_s, codeX n hl h ht, bd_s, nm_s, J_succ, RT_RT]
  simp only [← nlt_le (vl tp len (st tp len t)) lo]
  by_cases q1 : cd tp len (st tp len t) = 256 <;> by_cases q2 : vl tp len (st tp len t) < lo <;> by_cases q3 : vl tp len (st tp len t) ≤ hi <;> simp [q1, q2, q3]
theorem num6 (n : Nat) {tok : St} {tp : Nat → Int32} {len N : Nat} (hl : len ≤ 400) (h : TK tok tp len N) {t : Nat} (ht : t ≤ N) (R X : St) (lo hi : Int32) : m_X9_number_X6 n (RT R t) tok X lo hi = some (if nOK tp len (st tp len t) lo hi then (vl tp len (st tp len t), RT R (t + 1)) else (-1, RT R t)) := by
  unfold m_X9_number_X6 nOK
  rw [RT_at, valueX n hl h ht, bd_s, codeX n hl h ht, bd_s, nm_s, J_succ, RT_RT]
  simp only [← nlt_le (vl tp len (st tp len t)) lo]
  by_cases q1 : cd tp len (st tp len t) = 256 <;> by_cases q2 : vl tp len (st tp len t) < lo <;> by_cases q3 : vl tp len (st tp len t) ≤ hi <;> simp [q1, q2, q3]
-- what a code can be
theorem L_notD {x : Int32} (h : isL x = true) : isD x = false := by
  unfold isL at h; unfold isD
  rw [decide_eq_true_eq] at h
  rw [decide_eq_false]
  intro g; grind
theorem cd_L {tp : Nat → Int32} {len j : Nat} (hj : j < len) (h : isL (tp j) = true) : cd tp len j = wcL wds 300 (slc tp j (le_ tp len j)) := by unfold cd; rw [if_pos hj, if_pos h]
theorem cd_D {tp : Nat → Int32} {len j : Nat} (hj : j < len) (h : isL (tp j) = false) (h2 : isD (tp j) = true) : cd tp len j = if de_ tp len j - j ≤ 3 then 256 else 257 := by unfold cd; rw [if_pos hj, if_neg (by rw [h]; simp), if_pos h2]
theorem cd_S {tp : Nat → Int32} {len j : Nat} (hj : j < len) (h : isL (tp j) = false) (h2 : isD (tp j) = false) : cd tp len j = tp j &&& 255 := by unfold cd; rw [if_pos hj, if_neg (by rw [h]; simp), if_neg (by rw [h2]; simp)]
theorem cd_E {tp : Nat → Int32} {len j : Nat} (hj : ¬ j < len) : cd tp len j = 259 := by unfold cd; rw [if_neg hj]
/-- the kinds of tokens -/
theorem cd_kinds {tp : Nat → Int32} {len j : Nat} (hl : len ≤ 400) (hb : ∀ j, j < 400 → isByte (tp j)) (hj : j ≤ len) :
    (j = len ∧ cd tp len j = J 259) ∨ (j < len ∧ isL (tp j) = true ∧ (cd tp len j = J 258 ∨ ∃ k, k < 25 ∧ cd tp len j = J (300 + k))) ∨ (j < len ∧ isL (tp j) = false ∧ isD (tp j) = true ∧ ((de_ tp len j - j ≤ 3 ∧ cd tp len j = J 256) ∨ (¬ de_ tp len j - j ≤ 3 ∧ cd tp len j = J 257))) ∨ (j < len ∧ isL (tp j) = false ∧ isD (tp j) = false ∧ ∃ k, k < 256 ∧ cd tp len j = J k) := by
  by_cases q : j < len
  · by_cases qL : isL (tp j) = true
    · refine .inr (.inl ⟨q, qL, ?_⟩)
      rw [cd_L q qL]; exact wcL_rng _
    · have qL' : isL (tp j) = false := by simpa using qL
      by_cases qD : isD (tp j) = true
      · refine .inr (.inr (.inl ⟨q, qL', qD, ?_⟩))
        rw [cd_D q qL' qD]
        by_cases q3 : de_ tp len j - j ≤ 3
        · exact .inl ⟨q3, by rw [if_pos q3]; rfl⟩
        · exact .inr ⟨q3, by rw [if_neg q3]; rfl⟩
      · have qD' : isD (tp j) = false := by simpa using qD
        refine .inr (.inr (.inr ⟨q, qL', qD', ?_⟩))
        rw [cd_S q qL' qD']
        exact (byte_f (hb j (by omega))).2.2.2.1
  · exact .inl ⟨by omega, cd_E q⟩
theorem de_id {tp : Nat → Int32} {len j : Nat} (hj : j ≤ len) (h : j = len ∨ isD (tp j) = false) : de_ tp len j = j := run_id isD tp h hj
theorem le_id {tp : Nat → Int32} {len j : Nat} (hj : j ≤ len) (h : j = len ∨ isL (tp j) = false) : le_ tp len j = j := run_id isL tp h hj
theorem de_gt {tp : Nat → Int32} {len j : Nat} (hj : j < len) (h : isD (tp j) = true) : j < de_ tp len j := by
  have e := run_step isD tp hj
  rw [h, if_pos rfl] at e
  have := (run_le isD tp (show j + 1 ≤ len by omega)).1
  show j < run isD tp len j
  omega
theorem num_cd {tp : Nat → Int32} {len j : Nat} (hl : len ≤ 400) (hb : ∀ j, j < 400 → isByte (tp j)) (hj : j ≤ len) (lo hi : Int32) : numS tp len j lo hi = if nOK tp len j lo hi then vl tp len j else -1 := by
  unfold numS nOK
  rcases cd_kinds hl hb hj with ⟨a, b⟩ | ⟨a, a2, b⟩ | ⟨a, a2, a3, ⟨b1, b⟩ | ⟨b1, b⟩⟩ | ⟨a, a2, a3, k, b1, b⟩
  · rw [if_pos (de_id hj (.inl a)), if_neg (fun h => by rw [b, show (256 : Int32) = J 256 from rfl, J_inj (by omega) (by omega)] at h; omega)]
  · rw [if_pos (de_id hj (.inr (L_notD a2))), if_neg]
    rintro ⟨h, -⟩
    rcases b with b | ⟨k, hk, b⟩
    · rw [b, show (256 : Int32) = J 256 from rfl, J_inj (by omega) (by omega)] at h; omega
    · rw [b, show (256 : Int32) = J 256 from rfl, J_inj (by omega) (by omega)] at h; omega
  · have hv : vl tp len j = valS tp j (de_ tp len j - j) := by unfold vl; rw [if_pos ⟨a, a2, a3, b1⟩]
    have hg := de_gt a a3
    rw [if_neg (show ¬ de_ tp len j = j by omega), if_neg (show ¬ 3 < de_ tp len j - j by omega), ← hv, b, show J 256 = (256 : Int32) from rfl]
    simp only [← nlt_le (vl tp len j) lo]
    by_cases q2 : vl tp len j < lo <;> by_cases q3 : vl tp len j ≤ hi <;> simp [q2, q3]
  · have hg := de_gt a a3
    rw [if_neg (show ¬ de_ tp len j = j by omega), if_pos (show 3 < de_ tp len j - j by omega), if_neg (fun h => by rw [b, show (256 : Int32) = J 256 from rfl, J_inj (by omega) (by omega)] at h; omega)]
  · rw [if_pos (de_id hj (.inr a3)), if_neg (fun h => by rw [b, show (256 : Int32) = J 256 from rfl, J_inj (by omega) (by omega)] at h; omega)]
theorem te_num {tp : Nat → Int32} {len j : Nat} (hl : len ≤ 400) (hb : ∀ j, j < 400 → isByte (tp j)) (hj : j ≤ len) (h : cd tp len j = 256) : j < len ∧ te tp len j = de_ tp len j ∧ inB (vl tp len j) 0 999 := by
  rcases cd_kinds hl hb hj with ⟨a, b⟩ | ⟨a, a2, b⟩ | ⟨a, a2, a3, ⟨b1, b⟩ | ⟨b1, b⟩⟩ | ⟨a, a2, a3, k, b1, b⟩
  · rw [b, show (256 : Int32) = J 256 from rfl, J_inj (by omega) (by omega)] at h; omega
  · rcases b with b | ⟨k, hk, b⟩
    · rw [b, show (256 : Int32) = J 256 from rfl, J_inj (by omega) (by omega)] at h; omega
    · rw [b, show (256 : Int32) = J 256 from rfl, J_inj (by omega) (by omega)] at h; omega
  · refine ⟨a, by unfold te; rw [if_neg (by rw [a2]; simp), if_pos a3], ?_⟩
    have hv : vl tp len j = valS tp j (de_ tp len j - j) := by unfold vl; rw [if_pos ⟨a, a2, a3, b1⟩]
    have hdig : ∀ d i, (∀ k, i ≤ k → k < rE isD tp d i → isD (tp k) = true) := by
      intro d
      induction d with
      | zero => intro i k h1 h2; rw [rE] at h2; omega
      | succ d ih =>
        intro i k h1 h2
        rw [rE] at h2
        by_cases q : isD (tp i) = true
        · rw [if_pos q] at h2
          by_cases e : k = i
          · rw [e]; exact q
          · exact ih (i + 1) k (by omega) h2
        · rw [if_neg q] at h2; omega
    have key : ∀ K, K ≤ de_ tp len j - j → ∃ v, v < 10 ^ K ∧ valS tp j K = J v := by
      intro K
      induction K with
      | zero => intro _; exact ⟨0, by omega, by unfold valS; rw [foldN]; rfl⟩
      | succ K ih =>
        intro hK
        obtain ⟨v, hv1, hv2⟩ := ih (by omega)
        have hd := hdig (len - j) j (j + K) (by omega) (by show j + K < de_ tp len j; omega)
        unfold isD at hd
        rw [decide_eq_true_eq] at hd
        obtain ⟨c, ec, hc⟩ : ∃ c, tp (j + K) = J (48 + c) ∧ c < 10 := by
          have h1 := hd.1
          have h2 := hd.2
          rw [Int32.le_iff_toInt_le, show (48 : Int32).toInt = 48 from by decide] at h1
          rw [Int32.le_iff_toInt_le, show (57 : Int32).toInt = 57 from by decide] at h2
          refine ⟨((tp (j + K)).toInt - 48).toNat, ?_, by omega⟩
          apply Int32.toInt_inj.mp
          rw [J_toInt (by omega)]; omega
        refine ⟨10 * v + c, by rw [Nat.pow_succ]; omega, ?_⟩
        unfold valS at hv2 ⊢
        rw [foldN_succ, hv2, ec, show (10 : Int32) = J 10 from rfl, J_mul, J_add, show (48 : Int32) = J 48 from rfl, J_sub (by omega)]
        congr 1; omega
    obtain ⟨v, hv1, hv2⟩ := key _ (Nat.le_refl _)
    rw [hv, hv2]
    have : 10 ^ (de_ tp len j - j) ≤ 10 ^ 3 := Nat.pow_le_pow_right (by omega) b1
    exact ⟨v, rfl, by omega, by omega⟩
  · rw [b, show (256 : Int32) = J 256 from rfl, J_inj (by omega) (by omega)] at h; omega
  · rw [b, show (256 : Int32) = J 256 from rfl, J_inj (by omega) (by omega)] at h; omega
def wix (s : Nat) : Nat := [99, 11, 9, 10, 0, 1, 2, 3, 4, 5, 6, 7, 8, 20, 21, 22, 23, 24, 18, 19, 17, 16, 15, 12, 13, 14].getD s 99
theorem wix_wd : ∀ s, s < 26 → 1 ≤ s → wd s = wds.getD (wix s) [] ∧ wix s < 25 ∧ wd s ≠ [] := by decide +kernel
theorem word_cd {tp : Nat → Int32} {len j : Nat} (hl : len ≤ 400) (hb : ∀ j, j < 400 → isByte (tp j)) (hj : j ≤ len) {s : Nat} (hs : s < 26) (hs1 : 1 ≤ s) : slc tp j (le_ tp len j) = wd s ↔ cd tp len j = J (300 + wix s) := by
  obtain ⟨w1, w2, w3⟩ := wix_wd s hs hs1
  have hemp : ∀ (h : le_ tp len j = j), ¬ slc tp j (le_ tp len j) = wd s := fun h e => w3 (by rw [← e, h]; unfold slc; simp)
  rcases cd_kinds hl hb hj with ⟨a, b⟩ | ⟨a, a2, b⟩ | ⟨a, a2, a3, ⟨b1, b⟩ | ⟨b1, b⟩⟩ | ⟨a, a2, a3, k, b1, b⟩
  · exact ⟨fun h => absurd h (hemp (le_id hj (.inl a))), fun h => by rw [b, J_inj (by omega) (by omega)] at h; omega⟩
  · rw [cd_L a a2, wcL_iff _ w2, w1]
  · exact ⟨fun h => absurd h (hemp (le_id hj (.inr a2))), fun h => by rw [b, J_inj (by omega) (by omega)] at h; omega⟩
  · exact ⟨fun h => absurd h (hemp (le_id hj (.inr a2))), fun h => by rw [b, J_inj (by omega) (by omega)] at h; omega⟩
  · exact ⟨fun h => absurd h (hemp (le_id hj (.inr a2))), fun h => by rw [b, J_inj (by omega) (by omega)] at h; omega⟩
theorem te_word {tp : Nat → Int32} {len j : Nat} (hl : len ≤ 400) (hb : ∀ j, j < 400 → isByte (tp j)) (hj : j ≤ len) {k : Nat} (hk : k < 25) (h : cd tp len j = J (300 + k)) : j < len ∧ te tp len j = le_ tp len j := by
  rcases cd_kinds hl hb hj with ⟨a, b⟩ | ⟨a, a2, b⟩ | ⟨a, a2, a3, ⟨b1, b⟩ | ⟨b1, b⟩⟩ | ⟨a, a2, a3, k, b1, b⟩
  · rw [b, J_inj (by omega) (by omega)] at h; omega
  · exact ⟨a, by unfold te; rw [if_pos a2]⟩
  · rw [b, J_inj (by omega) (by omega)] at h; omega
  · rw [b, J_inj (by omega) (by omega)] at h; omega
  · rw [b, J_inj (by omega) (by omega)] at h; omega
theorem sign_cd {tp : Nat → Int32} {len j : Nat} (hl : len ≤ 400) (hb : ∀ j, j < 400 → isByte (tp j)) (hj : j ≤ len) {c : Nat} (hc : c < 128) (h1 : isL (J c) = false) (h2 : isD (J c) = false) : (j < len ∧ tp j = J c) ↔ cd tp len j = J c := by
  constructor
  · rintro ⟨q, e⟩
    rw [cd_S q (by rw [e]; exact h1) (by rw [e]; exact h2)]
    exact ((byte_f (hb j (by omega))).2.2.2.2 (J c) (by rw [show (0 : Int32) = J 0 from rfl, J_le (by omega) (by omega)]; omega) (by rw [show (128 : Int32) = J 128 from rfl, J_lt (by omega) (by omega)]; exact hc)).mpr e
  · intro h
    rcases cd_kinds hl hb hj with ⟨a, b⟩ | ⟨a, a2, b⟩ | ⟨a, a2, a3, ⟨b1, b⟩ | ⟨b1, b⟩⟩ | ⟨a, a2, a3, k, b1, b⟩
    · rw [b, J_inj (by omega) (by omega)] at h; omega
    · rcases b with b | ⟨k, hk, b⟩
      · rw [b, J_inj (by omega) (by omega)] at h; omega
      · rw [b, J_inj (by omega) (by omega)] at h; omega
    · rw [b, J_inj (by omega) (by omega)] at h; omega
    · rw [b, J_inj (by omega) (by omega)] at h; omega
    · refine ⟨a, ?_⟩
      rw [cd_S a a2 a3] at h
      exact ((byte_f (hb j (by omega))).2.2.2.2 (J c) (by rw [show (0 : Int32) = J 0 from rfl, J_le (by omega) (by omega)]; omega) (by rw [show (128 : Int32) = J 128 from rfl, J_lt (by omega) (by omega)]; exact hc)).mp h
theorem end_cd {tp : Nat → Int32} {len j : Nat} (hl : len ≤ 400) (hb : ∀ j, j < 400 → isByte (tp j)) (hj : j ≤ len) : cd tp len j = 259 ↔ j = len := by
  constructor
  · intro h
    rw [show (259 : Int32) = J 259 from rfl] at h
    rcases cd_kinds hl hb hj with ⟨a, b⟩ | ⟨a, a2, b⟩ | ⟨a, a2, a3, ⟨b1, b⟩ | ⟨b1, b⟩⟩ | ⟨a, a2, a3, k, b1, b⟩
    · exact a
    · rcases b with b | ⟨k, hk, b⟩
      · rw [b, J_inj (by omega) (by omega)] at h; omega
      · rw [b, J_inj (by omega) (by omega)] at h; omega
    · rw [b, J_inj (by omega) (by omega)] at h; omega
    · rw [b, J_inj (by omega) (by omega)] at h; omega
    · rw [b, J_inj (by omega) (by omega)] at h; omega
  · intro h; exact cd_E (by omega)
-- the reference at a token
theorem CXt.lt {tok V : St} {len N : Nat} (h : CXt tok V len N) {t : Nat} (ht : t ≤ N) (hc : st (V 8) len t < len) : t < N := by
  have := h.2.1.2.2.1
  by_cases q : t = N
  · rw [q] at hc; omega
  · omega
theorem numberT {n : Nat} (hn : 5000 < n) {tok V : St} {len N : Nat} (h : CXt tok V len N) {t : Nat} (ht : t ≤ N) {p b : Nat} (hp : JC V len p t) (lo hi : Int32) :
    (nOK (V 8) len (st (V 8) len t) lo hi ∧ t < N ∧ ∃ p', JC V len p' (t + 1) ∧ m_X12_number n (PB V p b) lo hi = some (vl (V 8) len (st (V 8) len t), PB V p' (st (V 8) len t))) ∨ (¬ nOK (V 8) len (st (V 8) len t) lo hi ∧ ∃ p', m_X12_number n (PB V p b) lo hi = some (-1, PB V p' (st (V 8) len t))) := by
  have hl := h.1.1
  have hj := stt_le (V 8) len t
  have e := numberR hn h.1 hp.1 (b := b) lo hi
  rw [hp.2, num_cd hl h.2.2 hj] at e
  by_cases q : nOK (V 8) len (st (V 8) len t) lo hi
  · rw [if_pos q] at e
    obtain ⟨a1, a2, a3⟩ := te_num hl h.2.2 hj q.1
    refine .inl ⟨q, h.lt ht a1, _, ⟨?_, ?_⟩, e⟩
    · rw [← a2]; exact (te_le (V 8) a1).2
    · rw [← a2, st_succ (V 8) a1]
  · rw [if_neg q] at e
    exact .inr ⟨q, _, e⟩
theorem wordT {n : Nat} (hn : 5000 < n) {tok V : St} {len N : Nat} (h : CXt tok V len N) (t : Nat) {s : Nat} (hs : s < 26) (hs1 : 1 ≤ s) : m_X12_isWord n (PB V (le_ (V 8) len (st (V 8) len t)) (st (V 8) len t)) s = some (b2 (decide (cd (V 8) len (st (V 8) len t) = J (300 + wix s)))) := by
  have hl := h.1.1
  have hj := stt_le (V 8) len t
  have hr := run_le isL (V 8) hj
  rw [isWordR hn h.1 hr.1 hr.2 hs]
  congr 2
  rw [Bool.eq_iff_iff, decide_eq_true_eq, decide_eq_true_eq, word_cd hl h.2.2 hj hs hs1]
theorem nextW {tok V : St} {len N : Nat} (h : CXt tok V len N) {t : Nat} (ht : t ≤ N) {k : Nat} (hk : k < 25) (hc : cd (V 8) len (st (V 8) len t) = J (300 + k)) : t < N ∧ JC V len (le_ (V 8) len (st (V 8) len t)) (t + 1) := by
  obtain ⟨a1, a2⟩ := te_word h.1.1 h.2.2 (stt_le (V 8) len t) hk hc
  exact ⟨h.lt ht a1, by rw [← a2]; exact (te_le (V 8) a1).2, by rw [← a2, st_succ (V 8) a1]⟩
theorem lettersT {n : Nat} (hn : 5000 < n) {tok V : St} {len N : Nat} (h : CXt tok V len N) {t : Nat} {p b : Nat} (hp : JC V len p t) : m_X12_letters n (PB V p b) = some (PB V (le_ (V 8) len (st (V 8) len t)) (st (V 8) len t)) := by
  rw [lettersR hn h.1 hp.1, hp.2]
theorem passT {n : Nat} (hn : 5000 < n) {tok V : St} {len N : Nat} (h : CXt tok V len N) {t : Nat} (ht : t ≤ N) {p b : Nat} (hp : JC V len p t) {s : Nat} (hs : s < 26) (hs1 : 1 ≤ s) :
    (cd (V 8) len (st (V 8) len t) = J (300 + wix s) ∧ t < N ∧ ∃ p', JC V len p' (t + 1) ∧ m_X12_passes n (PB V p b) s = some (1, PB V p' (st (V 8) len t))) ∨ (¬ cd (V 8) len (st (V 8) len t) = J (300 + wix s) ∧ m_X12_passes n (PB V p b) s = some (0, PB V (st (V 8) len t) (st (V 8) len t))) := by
  unfold m_X12_passes
  rw [lettersT hn h hp, bd_s, wordT hn h t hs hs1, bd_s]
  by_cases q : cd (V 8) len (st (V 8) len t) = J (300 + wix s)
  · obtain ⟨c1, c2⟩ := nextW h ht (wix_wd s hs hs1).2.1 q
    exact .inl ⟨q, c1, _, c2, by rw [decide_eq_true q, if_neg (by decide)]⟩
  · exact .inr ⟨q, by rw [decide_eq_false q, if_pos (by decide), nm_s, PB_b, PB_10]⟩
theorem signT {n : Nat} (hn : 5000 < n) {tok V : St} {len N : Nat} (h : CXt tok V len N) {t : Nat} (ht : t ≤ N) {p b : Nat} (hp : JC V len p t) {c : Nat} (hc : c < 128) (h1 : isL (J c) = false) (h2 : isD (J c) = false) :
    (cd (V 8) len (st (V 8) len t) = J c ∧ t < N ∧ ∃ p', JC V len p' (t + 1) ∧ m_X12_sign n (PB V p b) (J c) = some (1, PB V p' (st (V 8) len t))) ∨ (¬ cd (V 8) len (st (V 8) len t) = J c ∧ m_X12_sign n (PB V p b) (J c) = some (0, PB V (st (V 8) len t) (st (V 8) len t))) := by
  have e := signR hn h.1 hp.1 (b := b) (J c)
  rw [hp.2] at e
  have hs := sign_cd h.1.1 h.2.2 (stt_le (V 8) len t) hc h1 h2
  by_cases q : cd (V 8) len (st (V 8) len t) = J c
  · obtain ⟨a1, a2⟩ := hs.mpr q
    rw [if_pos ⟨a1, a2⟩] at e
    have ht1 : te (V 8) len (st (V 8) len t) = st (V 8) len t + 1 := by unfold te; rw [a2, h1, h2]; rfl
    refine .inl ⟨q, h.lt ht a1, _, ⟨by omega, ?_⟩, e⟩
    rw [st_succ (V 8) a1, ht1]
  · rw [if_neg (fun g => q (hs.mp g))] at e
    exact .inr ⟨q, e⟩
end PLINK
