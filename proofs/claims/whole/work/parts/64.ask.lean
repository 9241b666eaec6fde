section PASK
def mxN (c : Nat → Nat) : Nat → Nat
  | 0 => 0
  | k + 1 => max (mxN c k) (c k)
theorem mxN_le {c : Nat → Nat} {B : Nat} (h : ∀ k, c k ≤ B) : ∀ N, mxN c N ≤ B
  | 0 => Nat.zero_le _
  | N + 1 => by have := mxN_le h N; have := h N; unfold mxN; omega
theorem mxN_congr {c d : Nat → Nat} : ∀ {N : Nat}, (∀ k, k < N → c k = d k) → mxN c N = mxN d N
  | 0, _ => rfl
  | N + 1, h => by unfold mxN; rw [mxN_congr (fun k hk => h k (by omega)), h N (by omega)]
theorem foldN_succ {α : Type} (st : Nat → α → α) (a : α) (k : Nat) : foldN st a (k + 1) = st k (foldN st a k) := rfl
theorem mxN_inc {c d : Nat → Nat} {h0 : Nat} : ∀ N, (∀ k, k < N → d k = if k = h0 then c k + 1 else c k) → mxN d N = if h0 < N then max (mxN c N) (c h0 + 1) else mxN c N
  | 0, _ => rfl
  | N + 1, h => by
    have ih := mxN_inc N (fun k hk => h k (by omega))
    unfold mxN
    rw [ih, h N (by omega)]
    by_cases e : N = h0
    · subst e; rw [if_neg (by omega), if_pos rfl, if_pos (by omega)]; omega
    · rw [if_neg e]
      by_cases q : h0 < N
      · rw [if_pos q, if_pos (by omega)]; omega
      · rw [if_neg q, if_neg (by omega)]
theorem J_max {a b : Nat} (ha : a < 2147483648) (hb : b < 2147483648) : x_max (J a) (J b) = J (max a b) := by
  unfold x_max
  by_cases h : a < b
  · rw [if_pos ((J_lt ha hb).mpr h), Nat.max_eq_right (by omega)]
  · rw [if_neg (fun q => h ((J_lt ha hb).mp q)), Nat.max_eq_left (by omega)]
theorem J_min {a b : Nat} (ha : a < 2147483648) (hb : b < 2147483648) : x_min (J a) (J b) = J (min a b) := by
  unfold x_min
  by_cases h : b < a
  · rw [if_pos ((J_lt hb ha).mpr h), Nat.min_eq_right (by omega)]
  · rw [if_neg (fun q => h ((J_lt hb ha).mp q)), Nat.min_eq_left (by omega)]
def cntH (w : Nat → Int32) (p : Nat) (g : Int32) (l : List Int32) (h : Nat) : Nat := l.countP (fun x => decide (hwS w p x g = J h))
theorem cntH_le (w : Nat → Int32) (p : Nat) (g : Int32) (l : List Int32) (h : Nat) : cntH w p g l h ≤ l.length := List.countP_le_length
theorem cntH_app (w : Nat → Int32) (p : Nat) (g : Int32) (l : List Int32) (x : Int32) {i : Nat} (hi : i < 2147483648) (e : hwS w p x g = J i) {h : Nat} (hh : h < 2147483648) : cntH w p g (l ++ [x]) h = if h = i then cntH w p g l h + 1 else cntH w p g l h := by
  unfold cntH
  rw [List.countP_append, List.countP_singleton, e]
  by_cases q : h = i
  · rw [if_pos q, q]; simp
  · rw [if_neg q, if_neg]; · rfl
    rw [decide_eq_true_eq, J_inj hi hh]; omega
theorem gpX {n : Nat} (hn : 5000 < n) {G v : St} {w : Nat → Int32} (hR : HR v w) {p : Nat} (hp : p < nP w) (g : Int32) {l : List Int32} (hl : l.length ≤ 1024) (h0 : G 0 0 = J l.length) (hW : Wts G l) :
    Ok (m_X2_greatestPart n G v (J p) g) (fun r => r.1 = J (mxN (cntH w p g l) 11) ∧ Fr [3] G r.2) := by
  unfold m_X2_greatestPart
  refine ok_bd2 (P := fun x => Fr [3] G x ∧ ∀ h, h < 11 → x 3 h = 0) ?_ ?_
  · refine ok_forE (fun k x => (J k, x)) 11 (fun k x => Fr [3] G x ∧ ∀ h, h < k → x 3 h = 0) ?_ ?_ (by omega) G rfl ⟨Fr.rfl _ _, fun h hh => absurd hh (by omega)⟩
    · rintro rc k x hk ⟨hf, hl⟩ ih
      have e : ¬ (10 : Int32) < J k := by rw [show (10 : Int32) = J 10 from rfl, J_lt (by omega) (by omega)]; omega
      simp (disch := omega) only [e, ↓reduceIte, ix_J, J_nat, nm_s, J_succ]
      refine ih _ ⟨hf.put (by simp) _ _, fun h hh => ?_⟩
      rw [su_e, upd_a]
      by_cases q : h = k
      · rw [if_pos q]
      · rw [if_neg q]; exact hl h (by omega)
    · rintro rc x hx
      have e : (10 : Int32) < J 11 := by decide
      simp only [e, ↓reduceIte]
      exact ok_some hx
  rintro x1 ⟨hf1, hz⟩
  refine ok_forE (fun k (a : Int32 × St) => (a.1, J k, a.2)) l.length (fun k a => a.1 = J (mxN (cntH w p g (l.take k)) 11) ∧ Fr [3] G a.2 ∧ ∀ h, h < 11 → a.2 3 h = J (cntH w p g (l.take k) h)) ?_ ?_ (by omega) (0, x1) rfl ⟨?_, hf1, ?_⟩
  · rintro rc k ⟨a, x⟩ hk ⟨ha, hf, hc⟩ ih
    dsimp only at ha hf hc
    obtain ⟨i, hi, ei⟩ := hw_b w p (l.getD k 0) g
    have ex : x 2 = G 2 := hf 2 (by simp)
    have e0 : x 0 0 = J l.length := by rw [hf 0 (by simp)]; exact h0
    have et : l.take (k + 1) = l.take k ++ [l.getD k 0] := by
      rw [List.take_add_one]; congr 1
      simp [List.getD_eq_getElem?_getD, hk]
    have hle : ∀ h, cntH w p g (l.take k) h ≤ 1024 := fun h => Nat.le_trans (cntH_le _ _ _ _ _) (by rw [List.length_take]; omega)
    simp (disch := omega) only [e0, J_le, Nat.not_le.mpr hk, ↓reduceIte, ix_J, J_nat, ex, hW k hk, hwX hR hp, bd_s, ei, nm_s, su_e, upd_e, hc i hi, J_succ]
    have ih' : ∀ (b : Int32) (y : St), b = J (mxN (cntH w p g (l.take (k + 1))) 11) → Fr [3] G y → (∀ h, h < 11 → y 3 h = J (cntH w p g (l.take (k + 1)) h)) → Ok (rc (b, J (k + 1), y)) (fun r => r.1 = J (mxN (cntH w p g l) 11) ∧ Fr [3] G r.2) := fun b y h1 h2 h3 => ih (b, y) ⟨h1, h2, h3⟩
    refine ih' _ _ ?_ (hf.put (by simp) _ _) (fun h hh => ?_)
    · have hm := mxN_le hle 11
      have := hle i
      rw [ha, J_max (by omega) (by omega), et, mxN_inc (c := cntH w p g (l.take k)) (h0 := i) 11 (fun q hq => cntH_app _ _ _ _ _ (by omega) ei (by omega)), if_pos hi]
    · rw [su_e, upd_a, et, cntH_app _ _ _ _ _ (by omega) ei (by omega)]
      by_cases q : h = i
      · rw [if_pos q, if_pos q, q]
      · rw [if_neg q, if_neg q]; exact hc h hh
  · rintro rc ⟨a, x⟩ ⟨ha, hf, hc⟩
    dsimp only at ha hf hc
    have e0 : x 0 0 = J l.length := by rw [hf 0 (by simp)]; exact h0
    simp (disch := omega) only [e0, J_le, Nat.le_refl, ↓reduceIte]
    rw [List.take_length] at ha
    exact ok_some ⟨ha, hf⟩
  · dsimp only
    have : mxN (cntH w p g (l.take 0)) 11 = 0 := by
      have := mxN_le (c := cntH w p g (l.take 0)) (B := 0) (fun k => by have := cntH_le w p g (l.take 0) k; simpa using this) 11
      omega
    rw [this]; rfl
  · intro h hh
    dsimp only
    rw [hz h hh]
    have := cntH_le w p g (l.take 0) h
    rw [show cntH w p g (l.take 0) h = 0 from by simpa using this]; rfl
theorem foldM (c : Nat → Nat) {B : Nat} (h : ∀ k, c k ≤ B) (hB : B < 2147483648) : ∀ N, foldN (fun k a => x_max a (J (c k))) 0 N = J (mxN c N)
  | 0 => rfl
  | N + 1 => by
    show x_max (foldN _ 0 N) (J (c N)) = _
    have := mxN_le h N
    have := h N
    rw [foldM c h hB N, J_max (by omega) (by omega)]; rfl
theorem gpR {n : Nat} (hn : 5000 < n) {u : St} (hI : WInv (u 1)) {p : Nat} (hp : p < nP (u 1)) (g : Int32) {len : Nat} (hl : len ≤ 400) (h2 : len % 2 = 0) (hu : u 11 0 = J len) :
    Ok (m_X12_greatestPart n u (J p) g) (fun r => r.1 = J (mxN (cntH (u 1) p g (fitL (u 1) p (u 8) (len / 2) (goneK (u 1)))) 11) ∧ Fr [19] u r.2) := by
  obtain ⟨m, em, hm⟩ := inS_J hI (-1)
  have hK : goneK (u 1) = m + 1 := by unfold goneK; rw [em, J_nat (by omega)]
  rw [hK]
  unfold m_X12_greatestPart
  refine ok_bd2 (P := fun x => Fr [19] u x ∧ ∀ h, h < 11 → x 19 h = 0) ?_ ?_
  · refine ok_forE (fun k x => (J k, x)) 11 (fun k x => Fr [19] u x ∧ ∀ h, h < k → x 19 h = 0) ?_ ?_ (by omega) u rfl ⟨Fr.rfl _ _, fun h hh => absurd hh (by omega)⟩
    · rintro rc k x hk ⟨hf, hl⟩ ih
      have e : ¬ (10 : Int32) < J k := by rw [show (10 : Int32) = J 10 from rfl, J_lt (by omega) (by omega)]; omega
      simp (disch := omega) only [e, ↓reduceIte, ix_J, J_nat, nm_s, J_succ]
      refine ih _ ⟨hf.put (by simp) _ _, fun h hh => ?_⟩
      rw [su_e, upd_a]
      by_cases q : h = k
      · rw [if_pos q]
      · rw [if_neg q]; exact hl h (by omega)
    · rintro rc x hx
      have e : (10 : Int32) < J 11 := by decide
      simp only [e, ↓reduceIte]
      exact ok_some hx
  rintro x1 ⟨hf1, hz⟩
  generalize hN : len / 2 = N
  refine ok_bd2 (P := fun x => Fr [19] u x ∧ ∀ h, h < 11 → x 19 h = J (cntH (u 1) p g (fitL (u 1) p (u 8) N (m + 1)) h)) ?_ ?_
  · refine ok_forE (fun k x => (J k, x)) (m + 1) (fun k x => Fr [19] u x ∧ ∀ h, h < 11 → x 19 h = J (cntH (u 1) p g (fitL (u 1) p (u 8) N k) h)) ?_ ?_ (by omega) x1 rfl ⟨hf1, fun h hh => by rw [hz h hh]; rfl⟩
    · rintro rc k x hk ⟨hf, hc⟩ ih
      have e1 : x 1 = u 1 := hf 1 (by simp)
      have e8 : x 8 = u 8 := hf 8 (by simp)
      have e11 : x 11 0 = J len := by rw [hf 11 (by simp)]; exact hu
      have hIx : WInv (x 1) := by rw [e1]; exact hI
      have hpx : p < nP (x 1) := by rw [e1]; exact hp
      simp (disch := omega) only [goneR hn hIx, fitR hn hIx hpx _ hl h2 e11, hwR hn hIx hpx, e1, e8, em, bd_s, J_lt, show ¬ m < k from by omega, ↓reduceIte, hN, J_succ]
      cases hfit : fitG (u 1) p (u 8) N k
      · rw [if_pos (by decide), bd_s]
        refine ih x ⟨hf, fun h hh => ?_⟩
        rw [hc h hh]
        show _ = J (cntH _ _ _ (if fitG (u 1) p (u 8) N k = true then _ else _) h)
        rw [hfit]; rfl
      · obtain ⟨i, hi, ei⟩ := hw_b (u 1) p (wgS (u 1) (J k)) g
        rw [if_neg (by decide)]
        simp (disch := omega) only [ei, ix_J, ↓reduceIte, J_nat, nm_s, bd_s]
        refine ih _ ⟨hf.put (by simp) _ _, fun h hh => ?_⟩
        have el : fitL (u 1) p (u 8) N (k + 1) = fitL (u 1) p (u 8) N k ++ [wgS (u 1) (J k)] := by show (if fitG (u 1) p (u 8) N k = true then _ else _) = _; rw [hfit]; rfl
        rw [el, cntH_app _ _ _ _ _ (by omega) ei (by omega), su_e, upd_a]
        by_cases q : h = i
        · rw [if_pos q, if_pos q, q, hc i hi, J_succ]
        · rw [if_neg q, if_neg q]; exact hc h hh
    · rintro rc x ⟨hf, hc⟩
      have e1 : x 1 = u 1 := hf 1 (by simp)
      have hIx : WInv (x 1) := by rw [e1]; exact hI
      simp (disch := omega) only [goneR hn hIx, e1, em, bd_s, J_lt, show m < m + 1 from by omega, ↓reduceIte]
      exact ok_some ⟨hf, hc⟩
  rintro x2 ⟨hf2, hc2⟩
  have hB : ∀ h, cntH (u 1) p g (fitL (u 1) p (u 8) N (m + 1)) h ≤ 1024 := fun h => Nat.le_trans (cntH_le _ _ _ _ _) (Nat.le_trans (fitL_len _ _ _ _ _) (by omega))
  refine ok_eq (lp_fold (fun k a => (a, J k)) (fun k a => x_max a (J (cntH (u 1) p g (fitL (u 1) p (u 8) N (m + 1)) k))) (fun a => (a, x2)) 0 11 (fun rc k a hk => ?_) (fun rc a => ?_) (by omega) rfl) ?_
  · have e : ¬ (10 : Int32) < J k := by rw [show (10 : Int32) = J 10 from rfl, J_lt (by omega) (by omega)]; omega
    simp (disch := omega) only [e, ↓reduceIte, ix_J, J_nat, nm_s, J_succ, hc2 k hk]
  · have e : (10 : Int32) < J 11 := by decide
    simp only [e, ↓reduceIte]
  · exact ⟨foldM _ hB (by omega) 11, hf2⟩
-- the question that leaves the least
def asF (w : Nat → Int32) (p : Nat) (l : List Int32) (g : Nat) (a : Int32 × Int32) : Int32 × Int32 := if a.2 ≤ J (mxN (cntH w p (J g) l) 11) then a else (J g, J (mxN (cntH w p (J g) l) 11))
def askS (w : Nat → Int32) (p : Nat) (l : List Int32) : Int32 := (foldN (asF w p l) (-1, 1025) 21).1
theorem askX {n : Nat} (hn : 5000 < n) {G v : St} {w : Nat → Int32} (hR : HR v w) {p : Nat} (hp : p < nP w) {l : List Int32} (hl : l.length ≤ 1024) (h0 : G 0 0 = J l.length) (hW : Wts G l) :
    Ok (m_X2_bestAsk n G v (J p)) (fun r => r.1 = askS w p l) := by
  unfold m_X2_bestAsk
  refine ok_forE (fun k (a : (Int32 × Int32) × St) => (a.1.1, a.1.2, J k, a.2)) 21 (fun k a => a.1 = foldN (asF w p l) (-1, 1025) k ∧ Fr [3] G a.2) ?_ ?_ (by omega) ((-1, 1025), G) rfl ⟨rfl, Fr.rfl _ _⟩
  · rintro rc k ⟨a, x⟩ hk ⟨ha, hf⟩ ih
    dsimp only at ha hf
    have ih' : ∀ (b1 b2 : Int32) (y : St), (b1, b2) = asF w p l k a → Fr [3] G y → Ok (rc (b1, b2, J (k + 1), y)) (fun r => r.1 = askS w p l) := fun b1 b2 y h1 h2 => ih ((b1, b2), y) ⟨by rw [foldN_succ, ← ha]; exact h1, h2⟩
    have e : ¬ (20 : Int32) < J k := by rw [show (20 : Int32) = J 20 from rfl, J_lt (by omega) (by omega)]; omega
    simp only [e, ↓reduceIte, J_succ]
    refine ok_bd2 (gpX hn hR hp (J k) hl (by rw [hf 0 (by simp)]; exact h0) (fun j hj => by rw [hf 2 (by simp)]; exact hW j hj)) ?_
    rintro ⟨r, x2⟩ ⟨r1, r2⟩
    dsimp only at r1 r2 ⊢
    subst r1
    unfold asF at ih'
    by_cases q : a.2 ≤ J (mxN (cntH w p (J k) l) 11)
    · rw [if_pos q] at ih' ⊢
      rw [bd_s]
      exact ih' _ _ _ rfl (hf.tr r2)
    · rw [if_neg q] at ih' ⊢
      rw [bd_s]
      exact ih' _ _ _ rfl (hf.tr r2)
  · rintro rc ⟨a, x⟩ ⟨ha, hf⟩
    have e : (20 : Int32) < J 21 := by decide
    simp only [e, ↓reduceIte]
    refine ok_some ?_
    dsimp only at ha ⊢
    unfold askS
    rw [ha]
theorem askR {n : Nat} (hn : 5000 < n) {u : St} (hI : WInv (u 1)) {p : Nat} (hp : p < nP (u 1)) {len : Nat} (hl : len ≤ 400) (h2 : len % 2 = 0) (hu : u 11 0 = J len) {c : Int32} (hc : ¬ c ≤ 1) :
    Ok (lp (fun (rc9 : Int32 × Int32 × Int32 × St → Option (Int32 × St)) (x9l : Int32 × Int32 × Int32 × St) =>
(if 20 < x9l.2.2.1 then
some (x9l.1, x9l.2.2.2)
else
(if c ≤ 1 then
some (x9l.1, x9l.2.2.2)
else
bd (m_X12_greatestPart n x9l.2.2.2 (J p) x9l.2.2.1) (fun t10 =>
bd ((if x9l.2.1 ≤ t10.1 then
some x9l.1
else
some x9l.2.2.1)) (fun (t11 : Int32) =>
nm (x_min x9l.2.1 t10.1) (fun x4_12 =>
rc9 (t11, x4_12, (x9l.2.2.1 + 1), t10.2))))))) n ((-1), 1000000, 0, u)) (fun r => r.1 = askS (u 1) p (fitL (u 1) p (u 8) (len / 2) (goneK (u 1))) ∧ Fr [19] u r.2) := by
  obtain ⟨m, em, hm⟩ := inS_J hI (-1)
  have hK : goneK (u 1) = m + 1 := by unfold goneK; rw [em, J_nat (by omega)]
  generalize hL : fitL (u 1) p (u 8) (len / 2) (goneK (u 1)) = l
  have hll : l.length ≤ 1024 := by rw [← hL]; exact Nat.le_trans (fitL_len _ _ _ _ _) (by omega)
  refine ok_forE (fun k (a : (Int32 × Int32) × St) => (a.1.1, r2 a.1, J k, a.2)) 21 (fun k a => a.1 = foldN (asF (u 1) p l) (-1, 1025) k ∧ Fr [19] u a.2) ?_ ?_ (by omega) ((-1, 1025), u) rfl ⟨rfl, Fr.rfl _ _⟩
  · rintro rc k ⟨a, x⟩ hk ⟨ha, hf⟩ ih
    dsimp only at ha hf
    have hinv : (a.1 = -1 → a.2 = 1025) := by
      rw [ha]
      refine foldN_ind (R := fun _ (s : Int32 × Int32) => s.1 = -1 → s.2 = 1025) (fun _ => rfl) (fun k a hk' h => ?_)
      unfold asF
      split
      · exact h
      · intro e; exact absurd e (J_ne_neg (by omega))
    have e1 : x 1 = u 1 := hf 1 (by simp)
    have e8 : x 8 = u 8 := hf 8 (by simp)
    have e : ¬ (20 : Int32) < J k := by rw [show (20 : Int32) = J 20 from rfl, J_lt (by omega) (by omega)]; omega
    simp only [e, hc, ↓reduceIte, J_succ]
    have hq := gpR hn (u := x) (by rw [e1]; exact hI) (p := p) (by rw [e1]; exact hp) (J k) hl h2 (by rw [hf 11 (by simp)]; exact hu)
    rw [e1, e8, hL] at hq
    refine ok_bd2 hq ?_
    rintro ⟨r, x2⟩ ⟨r1, r2'⟩
    dsimp only at r1 r2' ⊢
    have hb := mxN_le (fun h => Nat.le_trans (cntH_le (u 1) p (J k) l h) hll) 11
    have fin : ∀ b : Int32 × Int32, b = asF (u 1) p l k a → Ok (rc (b.1, r2 b, J (k + 1), x2)) (fun r => r.1 = askS (u 1) p l ∧ Fr [19] u r.2) := fun b hb => ih (b, x2) ⟨by rw [foldN_succ, ← ha]; exact hb, hf.tr r2'⟩
    subst r1
    unfold asF at fin
    by_cases q3 : a.1 = -1
    · have hF : ¬ (1000000 : Int32) ≤ J (mxN (cntH (u 1) p (J k) l) 11) := by rw [show (1000000 : Int32) = J 1000000 from rfl, J_le (by omega) (by omega)]; omega
      have hF2 : ¬ a.2 ≤ J (mxN (cntH (u 1) p (J k) l) 11) := by rw [hinv q3, show (1025 : Int32) = J 1025 from rfl, J_le (by omega) (by omega)]; omega
      rw [if_neg hF2] at fin
      have er : r2 a = 1000000 := by unfold r2; rw [if_pos q3]
      rw [er, if_neg hF, bd_s, nm_s, x_min_gt hF]
      have := fin _ rfl
      unfold r2 at this
      rw [if_neg (J_ne_neg (by omega))] at this
      exact this
    · have er : r2 a = a.2 := by unfold r2; rw [if_neg q3]
      rw [er]
      by_cases q : a.2 ≤ J (mxN (cntH (u 1) p (J k) l) 11)
      · rw [if_pos q] at fin
        rw [if_pos q, bd_s, nm_s, x_min_le q]
        have := fin _ rfl
        rw [er] at this; exact this
      · rw [if_neg q] at fin
        rw [if_neg q, bd_s, nm_s, x_min_gt q]
        have := fin _ rfl
        unfold r2 at this
        rw [if_neg (J_ne_neg (by omega))] at this
        exact this
  · rintro rc ⟨a, x⟩ ⟨ha, hf⟩
    have e : (20 : Int32) < J 21 := by decide
    simp only [e, ↓reduceIte]
    refine ok_some ⟨?_, hf⟩
    dsimp only at ha ⊢
    unfold askS
    rw [ha]
end PASK
