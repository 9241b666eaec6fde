section PGUESS
theorem goneR {n : Nat} (hn : 5000 < n) {u : St} (hI : WInv (u 1)) : m_X12_goneOnes n u = some (inS (u 1) (-1)) := by
  have h10 := hI.t10
  unfold m_X12_goneOnes inS setN
  refine lp_fold (fun k a => (a, J k)) _ (fun a => a) 0 (nT (u 1)) (fun rc k a hk => ?_) (fun rc a => ?_) (by omega) rfl
  · simp (disch := omega) only [things_s, hI.t, bd_s, J_le, Nat.not_le.mpr hk, ↓reduceIte, isGone_s, nm_s, J_succ]
    by_cases e : u 1 (54 + 3 * k) = -1
    · simp only [b2i, e, ↓reduceIte, show ¬ ((1 : Int32) = 0) from by decide, bd_s, decide_true]
    · simp only [b2i, e, ↓reduceIte, bd_s, decide_false, Bool.false_eq_true, Int32.or_zero]
  · simp (disch := omega) only [things_s, hI.t, bd_s, J_le, Nat.le_refl, ↓reduceIte]
theorem brokenR {n : Nat} (hn : 5000 < n) {u : St} (hI : WInv (u 1)) : m_X12_brokenOnes n u = some (brS (u 1)) := by
  have h10 := hI.p5
  unfold m_X12_brokenOnes brS setN
  refine lp_fold (fun k a => (a, J k)) _ (fun a => a) 0 (nP (u 1)) (fun rc k a hk => ?_) (fun rc a => ?_) (by omega) rfl
  · simp (disch := omega) only [planks_s, hI.p, bd_s, J_le, Nat.not_le.mpr hk, ↓reduceIte, isBroken_s, nm_s, J_succ]
    by_cases e : u 1 (15 + 4 * k) = 1
    · simp only [b2i, e, ↓reduceIte, show ¬ ((1 : Int32) = 0) from by decide, bd_s, decide_true]
    · simp only [b2i, e, ↓reduceIte, bd_s, decide_false, Bool.false_eq_true, Int32.or_zero]
  · simp (disch := omega) only [planks_s, hI.p, bd_s, J_le, Nat.le_refl, ↓reduceIte]
theorem pursesR {n : Nat} (hn : 5000 < n) {u : St} (hI : WInv (u 1)) : m_X12_pursesOfAll n u = some (puS (u 1)) := by
  have h10 := hI.p5
  unfold m_X12_pursesOfAll puS
  refine lp_fold (fun k a => (a, J k)) _ (fun a => a) 0 (2 * nP (u 1)) (fun rc k a hk => ?_) (fun rc a => ?_) (by omega) rfl
  · simp (disch := omega) only [houses_s n u hI.p, bd_s, J_le, Nat.not_le.mpr hk, ↓reduceIte, of_0, nm_s, J_succ]
  · simp (disch := omega) only [houses_s n u hI.p, bd_s, J_le, Nat.le_refl, ↓reduceIte]
theorem remE {h : Nat} (hh : h < 401) : x_rem (J h) 2 = 0 ↔ h % 2 = 0 := by
  have : ∀ h : Nat, h < 401 → (x_rem (J h) 2 = 0 ↔ h % 2 = 0) := by decide +kernel
  exact this h hh
def tdS (tp : Nat → Int32) (i : Nat) : Bool := decide ((0 ≤ tp (2 * i) ∧ tp (2 * i) ≤ 20) ∧ (0 ≤ tp (2 * i + 1) ∧ tp (2 * i + 1) ≤ 10))
def toldS (tp : Nat → Int32) (len : Nat) : Bool := decide (len % 2 = 0 ∧ len ≤ 40) && allN (tdS tp) (len / 2)
theorem nlt_le (x y : Int32) : ¬ x < y ↔ y ≤ x := by grind
theorem J_lit2 (i : Nat) : J (2 * i) + 2 = J (2 * (i + 1)) := by rw [show (2 : Int32) = J 2 from rfl, J_add]; rfl
theorem toldX {n : Nat} (hn : 5000 < n) {T : St} {len : Nat} (hl : len ≤ 400) : m_X2_isTold n T (J len) = some (b2 (toldS (T 0) len)) := by
  unfold m_X2_isTold toldS
  by_cases h1 : len % 2 = 0
  · rw [if_pos ((remE (by omega)).mpr h1)]
    by_cases h2 : len ≤ 40
    · rw [if_pos (by rw [show (40 : Int32) = J 40 from rfl, J_le (by omega) (by omega)]; exact h2), decide_eq_true (⟨h1, h2⟩ : len % 2 = 0 ∧ len ≤ 40), Bool.true_and]
      obtain ⟨N, hN⟩ : ∃ N, N = len / 2 := ⟨_, rfl⟩
      rw [← hN]
      refine lp_all (fun k => J (2 * k)) (tdS (T 0)) N 0 1 (fun rc k hk => ?_) (fun rc => ?_) (by omega) rfl
      · simp (disch := omega) only [J_dbl1, J_le, show ¬ len ≤ 2 * k + 1 from by omega, ix_J, ↓reduceIte, J_nat, jn_s, J_lit2]
        unfold tdS
        simp only [← nlt_le (T 0 (2 * k)) 0, ← nlt_le 20 (T 0 (2 * k)), ← nlt_le (T 0 (2 * k + 1)) 0, ← nlt_le 10 (T 0 (2 * k + 1))]
        by_cases a1 : T 0 (2 * k) < 0 <;> by_cases a2 : 20 < T 0 (2 * k) <;> by_cases a3 : T 0 (2 * k + 1) < 0 <;> by_cases a4 : 10 < T 0 (2 * k + 1) <;> simp only [a1, a2, a3, a4, bd_s, not_true_eq_false, not_false_eq_true, and_true, and_false, false_and, true_and, and_self, decide_true, decide_false, ↓reduceIte, Bool.false_eq_true, show ¬ ((1 : Int32) = 0) from by decide]
      · simp (disch := omega) only [J_dbl1, J_le, show len ≤ 2 * N + 1 from by omega, ↓reduceIte]
    · rw [if_neg (by rw [show (40 : Int32) = J 40 from rfl, J_le (by omega) (by omega)]; exact h2), decide_eq_false (fun q => h2 q.2)]; rfl
  · rw [if_neg (fun q => h1 ((remE (by omega)).mp q)), decide_eq_false (fun q => h1 q.1)]; rfl
theorem toldR {n : Nat} (hn : 5000 < n) {u : St} {len : Nat} (hl : len ≤ 400) (hu : u 11 0 = J len) : m_X12_isTold n u = some (b2 (toldS (u 8) len)) := by
  unfold m_X12_isTold toldS
  have e0 : jn (fun (t10 : Unit) => some (0 : Int32)) (fun (K10 : Unit → Option (Int32)) => (if (x_rem (u 11 0) 2) = 0 then (if 40 < (u 11 0) then K10 () else some 1) else K10 ())) = some (b2 (decide (len % 2 = 0 ∧ len ≤ 40))) := by
    rw [jn_s, hu]
    by_cases h1 : len % 2 = 0
    · rw [if_pos ((remE (by omega)).mpr h1)]
      by_cases h2 : len ≤ 40
      · rw [if_neg (by rw [show (40 : Int32) = J 40 from rfl, J_lt (by omega) (by omega)]; omega), decide_eq_true (⟨h1, h2⟩ : len % 2 = 0 ∧ len ≤ 40)]; rfl
      · rw [if_pos (by rw [show (40 : Int32) = J 40 from rfl, J_lt (by omega) (by omega)]; omega), decide_eq_false (fun q => h2 q.2)]; rfl
    · rw [if_neg (fun q => h1 ((remE (by omega)).mp q)), decide_eq_false (fun q => h1 q.1)]; rfl
  rw [e0, bd_s]
  by_cases hc : len % 2 = 0 ∧ len ≤ 40
  · rw [decide_eq_true hc]
    obtain ⟨N, hN⟩ : ∃ N, N = len / 2 := ⟨_, rfl⟩
    rw [← hN]
    refine (congrArg (fun x => bd x _) (lp_flag (fun k a => (a, J (2 * k))) (tdS (u 8)) N (fun a => a) (fun rc k hk => ?_) (fun rc k hk => ?_) (fun rc b => ?_) (by omega) true rfl)).trans ?_
    · simp (disch := omega) only [hu, J_le, show ¬ len ≤ 2 * k from by omega, ix_J, ↓reduceIte, J_nat, jn_s, J_lit2, J_dbl1, in_s, bd_s, show ¬ ((1 : Int32) = 0) from by decide]
      unfold tdS
      by_cases a1 : 0 ≤ u 8 (2 * k) ∧ u 8 (2 * k) ≤ 20
      · by_cases a2 : 0 ≤ u 8 (2 * k + 1) ∧ u 8 (2 * k + 1) ≤ 10
        · rw [decide_eq_true (⟨a1, a2⟩ : _ ∧ _)]; unfold b2i; rw [if_pos a1, if_neg (by decide), if_pos a2, if_neg (by decide), bd_s]; rfl
        · rw [decide_eq_false (fun q => a2 q.2)]; unfold b2i; rw [if_pos a1, if_neg (by decide), if_neg a2, if_pos (by decide), bd_s]; rfl
      · rw [decide_eq_false (fun q => a1 q.1)]; unfold b2i; rw [if_neg a1, if_pos (by decide), bd_s]; rfl
    · simp (disch := omega) only [hu, J_le, show ¬ len ≤ 2 * k from by omega, ↓reduceIte]
    · simp (disch := omega) only [hu, J_le, show len ≤ 2 * N from by omega, ↓reduceIte]
    · rw [bd_s, if_pos (isb_b2 _)]
  · rw [decide_eq_false hc]
    obtain ⟨m, rfl⟩ : ∃ m, n = m + 1 := ⟨n - 1, by omega⟩
    show bd (if u 11 0 ≤ 0 then some (b2 false) else if b2 false = 0 then some (b2 false) else _) _ = _
    by_cases q : u 11 0 ≤ 0
    · rw [if_pos q]; rfl
    · rw [if_neg q]; rfl
-- what they agree on
def hwS (w : Nat → Int32) (p : Nat) (x g : Int32) : Int32 := 5 + leanS (w 6) (loadS w (2 * p + 1) - loadS w (2 * p) - x - 5 * g)
theorem hwX {n : Nat} {v : St} {w : Nat → Int32} (hR : HR v w) {p : Nat} (hp : p < nP w) (x g : Int32) : m_X2_heightWith n v (J p) x g = some (hwS w p x g) := by
  have h5 := hR.1.p5
  unfold m_X2_heightWith hwS
  simp (disch := omega) only [J_dbl, J_dbl1, ix_J, ↓reduceIte, J_nat, (hR.2.2 (2 * p) (by omega)).1, (hR.2.2 (2 * p + 1) (by omega)).1, Xleaning hR.1 hR.2.1, bd_s, nm_s]
  have e : loadS w (2 * p + 1) - (loadS w (2 * p) + x + 5 * g) = loadS w (2 * p + 1) - loadS w (2 * p) - x - 5 * g := by grind
  rw [e]
theorem hwR {n : Nat} (hn : 5000 < n) {u : St} (hI : WInv (u 1)) {p : Nat} (hp : p < nP (u 1)) (s g : Int32) : m_X12_heightWith n u (J p) s g = some (hwS (u 1) p (wgS (u 1) s) g) := by
  have h5 := hI.p5
  unfold m_X12_heightWith hwS
  simp (disch := omega) only [J_dbl, J_dbl1, loadOf_s hn u hI, weightOf_s hn u _ hI.t hI.t10, bd_s, tiltBy_s n u hI]
theorem hw_b (w : Nat → Int32) (p : Nat) (x g : Int32) : ∃ i, i < 11 ∧ hwS w p x g = J i := by
  unfold hwS
  obtain ⟨i, hi, e⟩ := lean_b (w 6) (loadS w (2 * p + 1) - loadS w (2 * p) - x - 5 * g)
  exact ⟨i, hi, by rw [e]; grind⟩
def agP (w : Nat → Int32) (p : Nat) (tp : Nat → Int32) (x : Int32) (i : Nat) : Bool := decide (hwS w p x (tp (2 * i)) = tp (2 * i + 1))
theorem agX {n : Nat} (hn : 5000 < n) {v T : St} {w : Nat → Int32} (hR : HR v w) {p : Nat} (hp : p < nP w) (x : Int32) {len : Nat} (hl : len ≤ 400) (h2 : len % 2 = 0) : m_X2_agrees n v T (J p) x (J len) = some (b2 (allN (agP w p (T 0) x) (len / 2))) := by
  unfold m_X2_agrees
  obtain ⟨N, hN⟩ : ∃ N, N = len / 2 := ⟨_, rfl⟩
  rw [← hN]
  refine lp_all (fun k => J (2 * k)) (agP w p (T 0) x) N 0 1 (fun rc k hk => ?_) (fun rc => ?_) (by omega) rfl
  · simp (disch := omega) only [J_dbl1, J_le, show ¬ len ≤ 2 * k + 1 from by omega, ix_J, ↓reduceIte, J_nat, J_lit2, hwX hR hp, bd_s]
    unfold agP
    by_cases q : hwS w p x (T 0 (2 * k)) = T 0 (2 * k + 1) <;> simp [q]
  · simp (disch := omega) only [J_dbl1, J_le, show len ≤ 2 * N + 1 from by omega, ↓reduceIte]
def fitG (w : Nat → Int32) (p : Nat) (tp : Nat → Int32) (N : Nat) (s : Nat) : Bool := decide ((J s &&& inS w (-1)) = J s) && allN (agP w p tp (wgS w (J s))) N
theorem fitR {n : Nat} (hn : 5000 < n) {u : St} (hI : WInv (u 1)) {p : Nat} (hp : p < nP (u 1)) (s : Nat) {len : Nat} (hl : len ≤ 400) (h2 : len % 2 = 0) (hu : u 11 0 = J len) : m_X12_fits n u (J p) (J s) = some (b2 (fitG (u 1) p (u 8) (len / 2) s)) := by
  unfold m_X12_fits fitG
  obtain ⟨N, hN⟩ : ∃ N, N = len / 2 := ⟨_, rfl⟩
  rw [← hN, goneR hn hI, bd_s]
  have e0 : (if (J s &&& (inS (u 1) (-1) ^^^ (-1))) = 0 then some 1 else some 0 : Option Int32) = some (b2 (decide ((J s &&& inS (u 1) (-1)) = J s))) := by
    by_cases q : (J s &&& inS (u 1) (-1)) = J s
    · rw [if_pos ((and_sub _ _).mpr q), decide_eq_true q]; rfl
    · rw [if_neg (fun h => q ((and_sub _ _).mp h)), decide_eq_false q]; rfl
  rw [e0, bd_s]
  refine (congrArg (fun x => bd x _) (lp_flag (fun k a => (a, J (2 * k))) (agP (u 1) p (u 8) (wgS (u 1) (J s))) N (fun a => a) (fun rc k hk => ?_) (fun rc k hk => ?_) (fun rc b => ?_) (by omega) _ rfl)).trans ?_
  · simp (disch := omega) only [hu, J_le, show ¬ len ≤ 2 * k from by omega, ix_J, ↓reduceIte, J_nat, J_lit2, J_dbl1, hwR hn hI hp, bd_s, show ¬ ((1 : Int32) = 0) from by decide]
    unfold agP
    by_cases q : hwS (u 1) p (wgS (u 1) (J s)) (u 8 (2 * k)) = u 8 (2 * k + 1) <;> simp [q, bd_s, b2]
  · simp (disch := omega) only [hu, J_le, show ¬ len ≤ 2 * k from by omega, ↓reduceIte]
  · simp (disch := omega) only [hu, J_le, show len ≤ 2 * N from by omega, ↓reduceIte]
  · rw [bd_s, if_pos (isb_b2 _)]
/-- the weights of the sets that fit, and what is in all -/
def fitL (w : Nat → Int32) (p : Nat) (tp : Nat → Int32) (N : Nat) : Nat → List Int32
  | 0 => []
  | k + 1 => if fitG w p tp N k then fitL w p tp N k ++ [wgS w (J k)] else fitL w p tp N k
def fitA (w : Nat → Int32) (p : Nat) (tp : Nat → Int32) (N : Nat) : Nat → Int32
  | 0 => inS w (-1)
  | k + 1 => if fitG w p tp N k then fitA w p tp N k &&& J k else fitA w p tp N k
theorem fitL_len (w : Nat → Int32) (p : Nat) (tp : Nat → Int32) (N : Nat) : ∀ k, (fitL w p tp N k).length ≤ k
  | 0 => Nat.le_refl _
  | k + 1 => by
    have := fitL_len w p tp N k
    unfold fitL; split
    · rw [List.length_append]; simp; omega
    · omega
def goneK (w : Nat → Int32) : Nat := (inS w (-1)).toNatClampNeg + 1
def Wts (G : St) (l : List Int32) : Prop := ∀ j, j < l.length → G 2 j = l.getD j 0
theorem searchX {n : Nat} (hn : 5000 < n) {G v T : St} {w : Nat → Int32} (hR : HR v w) {p : Nat} (hp : p < nP w) {len : Nat} (hl : len ≤ 400) (h2 : len % 2 = 0) :
    Ok (m_X2_search n G v T (J p) (J len)) (fun G' => G' 0 0 = J (fitL w p (T 0) (len / 2) (goneK w)).length ∧ G' 1 0 = (if (fitL w p (T 0) (len / 2) (goneK w)).length = 0 then 0 else fitA w p (T 0) (len / 2) (goneK w)) ∧ Wts G' (fitL w p (T 0) (len / 2) (goneK w))) := by
  obtain ⟨m, em, hm⟩ := inS_J hR.1 (-1)
  unfold m_X2_search
  rw [XgoneThings hn hR.1 hR.2.1, bd_s, em]
  have hK : goneK w = m + 1 := by unfold goneK; rw [em, J_nat (by omega)]
  rw [hK]
  generalize hN : len / 2 = N
  simp only [nm_s]
  refine ok_bd2 (P := fun G' => G' 0 0 = J (fitL w p (T 0) N (m + 1)).length ∧ G' 1 0 = fitA w p (T 0) N (m + 1) ∧ Wts G' (fitL w p (T 0) N (m + 1))) ?_ ?_
  · refine ok_forE (fun k x => (J k, x)) (m + 1) (fun k G' => G' 0 0 = J (fitL w p (T 0) N k).length ∧ G' 1 0 = fitA w p (T 0) N k ∧ Wts G' (fitL w p (T 0) N k)) ?_ ?_ (by omega) _ rfl ⟨?_, ?_, ?_⟩
    · rintro rc k G' hk ⟨g0, g1, g2⟩ ih
      have hlen := fitL_len w p (T 0) N k
      simp (disch := omega) only [J_lt, show ¬ m < k from by omega, ↓reduceIte, XweightOf hn hR.1 hR.2.1, agX hn hR hp _ hl h2, hN, bd_s, J_succ]
      have nofit : fitG w p (T 0) N k = false → Ok (rc (J (k + 1), G')) (fun G' => G' 0 0 = J (fitL w p (T 0) N (m + 1)).length ∧ G' 1 0 = fitA w p (T 0) N (m + 1) ∧ Wts G' (fitL w p (T 0) N (m + 1))) := fun hf => by
        have e1 : fitL w p (T 0) N (k + 1) = fitL w p (T 0) N k := by show (if fitG w p (T 0) N k = true then _ else _) = _; rw [hf]; rfl
        have e2 : fitA w p (T 0) N (k + 1) = fitA w p (T 0) N k := by show (if fitG w p (T 0) N k = true then _ else _) = _; rw [hf]; rfl
        refine ih G' ?_
        rw [e1, e2]; exact ⟨g0, g1, g2⟩
      by_cases q1 : (J k &&& J m) = J k
      · rw [if_pos q1]
        by_cases q2 : allN (agP w p (T 0) (wgS w (J k))) N = true
        · have hf : fitG w p (T 0) N k = true := by unfold fitG; rw [em, decide_eq_true q1, q2]; rfl
          have e1 : fitL w p (T 0) N (k + 1) = fitL w p (T 0) N k ++ [wgS w (J k)] := by show (if fitG w p (T 0) N k = true then _ else _) = _; rw [hf]; rfl
          have e2 : fitA w p (T 0) N (k + 1) = fitA w p (T 0) N k &&& J k := by show (if fitG w p (T 0) N k = true then _ else _) = _; rw [hf]; rfl
          rw [q2, if_neg (by decide), g0, if_neg (by rw [show (1024 : Int32) = J 1024 from rfl, J_le (by omega) (by omega)]; omega), if_pos (J_ix (by omega) (by omega)), J_nat (by omega), bd_s]
          refine ih _ ⟨?_, ?_, ?_⟩
          · rw [e1, su_n _ _ _ _ (by decide), su_e, upd_e, su_n _ _ _ _ (by decide), g0, J_succ, List.length_append]; rfl
          · rw [e2, su_e, upd_e, su_n _ _ _ _ (by decide), su_n _ _ _ _ (by decide), g1]
          · intro j hj
            rw [e1] at hj ⊢
            rw [List.length_append] at hj
            simp only [List.length_cons, List.length_nil] at hj
            rw [su_n _ _ _ _ (by decide), su_n _ _ _ _ (by decide), su_e, upd_a]
            by_cases ej : j = (fitL w p (T 0) N k).length
            · rw [if_pos ej, ej]; simp
            · rw [if_neg ej, g2 j (by omega)]; simp [List.getD_eq_getElem?_getD, List.getElem?_append_left (show j < (fitL w p (T 0) N k).length by omega)]
        · have q2' : allN (agP w p (T 0) (wgS w (J k))) N = false := by simpa using q2
          rw [q2', if_pos (by decide), bd_s]
          exact nofit (by unfold fitG; rw [q2', Bool.and_false])
      · rw [if_neg q1, bd_s]
        exact nofit (by unfold fitG; rw [em, decide_eq_false q1, Bool.false_and])
    · rintro rc G' hG
      simp (disch := omega) only [J_lt, show m < m + 1 from by omega, ↓reduceIte]
      exact ok_some hG
    · rw [su_n _ _ _ _ (by decide), su00]; rfl
    · rw [su_e, upd_e, em.symm]; rfl
    · intro j hj; exact absurd hj (by simp [fitL])
  · rintro G' ⟨g0, g1, g2⟩
    by_cases q : (fitL w p (T 0) N (m + 1)).length = 0
    · rw [g0, q, if_pos (by decide)]
      refine ok_some ⟨?_, ?_, ?_⟩
      · rw [su_n _ _ _ _ (by decide), g0, q]
      · rw [su_e, upd_e, if_pos rfl]
      · intro j hj; omega
    · have hlen := fitL_len w p (T 0) N (m + 1)
      rw [g0, if_neg (by rw [show (0 : Int32) = J 0 from rfl, J_inj (by omega) (by omega)]; exact q), if_neg q]
      exact ok_some ⟨g0, g1, g2⟩
end PGUESS
