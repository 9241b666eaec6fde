section PLAWR
def gd (V : St) (i : Nat) : Nat := (V 1 (1280 + 2 * i)).toNatClampNeg
/-- the steps as both have them -/
def LD (L V : St) (s : Nat) : Prop := L 5 0 = J s ∧ V 16 0 = J s ∧ ∀ i, i < s → ∃ o, V 1 (1280 + 2 * i) = J o ∧ o ≤ 14 ∧ (o = 8 → inB (V 1 (1281 + 2 * i)) 0 999) ∧ L 4 i = sgn o (V 1 (1281 + 2 * i))
def emV (V : St) (s : Nat) (o a : Int32) : St := su (su (su V 1 (1280 + 2 * s) o) 1 (1281 + 2 * s) a) 16 0 (J (s + 1))
def puL (L : St) (s : Nat) (x : Int32) : St := su (su L 4 s x) 5 0 (J (s + 1))
theorem emR (n : Nat) {V : St} {s : Nat} (hs : s < 400) (h : V 16 0 = J s) (p b : Nat) (o a : Int32) : m_X12_emits n (PB V p b) o a = some (PB (emV V s o a) p b) := by
  unfold m_X12_emits emV
  have e1 : PB V p b 16 0 = J s := by rw [PB_n _ _ _ (by decide) (by decide)]; exact h
  have e2 : 1280 + 2 * J s = J (1280 + 2 * s) := by rw [show (1280 : Int32) = J 1280 from rfl, show (2 : Int32) = J 2 from rfl, J_mul, J_add]
  have e3 : J (1280 + 2 * s) + 1 = J (1281 + 2 * s) := by rw [J_succ]; congr 1; omega
  have e4 : su (PB V p b) 1 (1280 + 2 * s) o 16 0 = J s := by rw [su_n _ _ _ _ (by decide)]; exact e1
  have e5 : su (su (PB V p b) 1 (1280 + 2 * s) o) 1 (1281 + 2 * s) a 16 0 = J s := by rw [su_n _ _ _ _ (by decide)]; exact e4
  simp (disch := omega) only [e1, e2, e3, ix_J, ↓reduceIte, J_nat, nm_s, e4, e5, J_succ s]
  rw [su_PB _ _ _ (by decide) (by decide), su_PB _ _ _ (by decide) (by decide), su_PB _ _ _ (by decide) (by decide)]
theorem puX (n : Nat) {L : St} {s : Nat} (hs : s < 400) (h : L 5 0 = J s) (x : Int32) : m_X5_put n L x = some (puL L s x) := by
  unfold m_X5_put puL
  have e : ¬ (400 : Int32) ≤ J s := by rw [show (400 : Int32) = J 400 from rfl, J_le (by omega) (by omega)]; omega
  have e1 : su L 4 s x 5 0 = J s := by rw [su_n _ _ _ _ (by decide)]; exact h
  simp (disch := omega) only [h, e, ↓reduceIte, ix_J, J_nat, nm_s, e1, J_succ s]
def FV (s : Nat) (V V' : St) : Prop := Fr [1, 13, 16] V V' ∧ ∀ k, k < 1280 + 2 * s → V' 1 k = V 1 k
def FL (s : Nat) (L L' : St) : Prop := Fr [4, 5] L L' ∧ ∀ i, i < s → L' 4 i = L 4 i
theorem FV.rfl (s : Nat) (V : St) : FV s V V := ⟨Fr.rfl _ _, fun _ _ => by trivial⟩
theorem FL.rfl (s : Nat) (L : St) : FL s L L := ⟨Fr.rfl _ _, fun _ _ => by trivial⟩
theorem FV.tr {s s' : Nat} {V V1 V2 : St} (h : FV s V V1) (k : FV s' V1 V2) (hs : s ≤ s') : FV s V V2 := ⟨h.1.tr k.1, fun j hj => (k.2 j (by omega)).trans (h.2 j hj)⟩
theorem FL.tr {s s' : Nat} {L L1 L2 : St} (h : FL s L L1) (k : FL s' L1 L2) (hs : s ≤ s') : FL s L L2 := ⟨h.1.tr k.1, fun j hj => (k.2 j (by omega)).trans (h.2 j hj)⟩
theorem emV_fr (V : St) (s : Nat) (o a : Int32) : FV s V (emV V s o a) := by
  refine ⟨?_, fun k hk => ?_⟩
  · unfold emV; exact (((Fr.rfl _ _).put (by simp) _ _).put (by simp) _ _).put (by simp) _ _
  · unfold emV; rw [su_n _ _ _ _ (by decide), su_e, upd_n _ _ _ (by omega), su_e, upd_n _ _ _ (by omega)]
theorem puL_fr (L : St) (s : Nat) (x : Int32) : FL s L (puL L s x) := by
  refine ⟨?_, fun k hk => ?_⟩
  · unfold puL; exact ((Fr.rfl _ _).put (by simp) _ _).put (by simp) _ _
  · unfold puL; rw [su_n _ _ _ _ (by decide), su_e, upd_n _ _ _ (by omega)]
theorem emV_13 (V : St) (s : Nat) (o a : Int32) : emV V s o a 13 0 = V 13 0 := by unfold emV; rw [su_n _ _ _ _ (by decide), su_n _ _ _ _ (by decide), su_n _ _ _ _ (by decide)]
theorem emV_16 (V : St) (s : Nat) (o a : Int32) : emV V s o a 16 0 = J (s + 1) := by unfold emV; rw [su_e, upd_e]
theorem emV_o (V : St) (s : Nat) (o a : Int32) : emV V s o a 1 (1280 + 2 * s) = o ∧ emV V s o a 1 (1281 + 2 * s) = a := by
  unfold emV; rw [su_n _ _ _ _ (by decide), su_e, upd_n _ _ _ (by omega), su_e, upd_e, upd_e]; exact ⟨rfl, rfl⟩
theorem LD.em {L V : St} {s : Nat} (h : LD L V s) {o : Nat} (ho : o ≤ 14) {a : Int32} (ha : o = 8 → inB a 0 999) : LD (puL L s (sgn o a)) (emV V s (J o) a) (s + 1) := by
  refine ⟨by unfold puL; rw [su_e, upd_e], emV_16 _ _ _ _, fun i hi => ?_⟩
  by_cases e : i = s
  · subst e
    obtain ⟨e1, e2⟩ := emV_o V i (J o) a
    refine ⟨o, e1, ho, by rw [e2]; exact ha, ?_⟩
    rw [e2]; unfold puL; rw [su_n _ _ _ _ (by decide), su_e, upd_e]
  · obtain ⟨o', c1, c2, c3, c4⟩ := h.2.2 i (by omega)
    have f1 := (emV_fr V s (J o) a).2 (1280 + 2 * i) (by omega)
    have f2 := (emV_fr V s (J o) a).2 (1281 + 2 * i) (by omega)
    rw [f1, f2, (puL_fr L s _).2 i (by omega)]
    exact ⟨o', c1, c2, c3, c4⟩
-- kinds
def TYP (V : St) (s s' : Nat) (b : Bool) (x : Nat) : Prop := ∀ ts : List Bool, ts.length + x ≤ 64 → tyR (gd V) s (s' - s) ts = some (b :: ts)
theorem tyR_app {g : Nat → Nat} : ∀ (d1 d2 i : Nat) (ts ts1 : List Bool), tyR g i d1 ts = some ts1 → tyR g i (d1 + d2) ts = tyR g (i + d1) d2 ts1
  | 0, d2, i, ts, ts1, h => by
    unfold tyR at h; cases h; rw [Nat.zero_add, Nat.add_zero]
  | d1 + 1, d2, i, ts, ts1, h => by
    obtain ⟨ts', h1, h2, h3⟩ := tyR_step h
    rw [show d1 + 1 + d2 = (d1 + d2) + 1 from by omega, show i + (d1 + 1) = (i + 1) + d1 from by omega, ← tyR_app d1 d2 (i + 1) ts' ts1 h3]
    conv => lhs; unfold tyR
    rw [h1]
    dsimp only
    rw [if_pos h2]
theorem ty_tr {g : Nat → Nat} {s s1 s2 : Nat} {ts ts1 ts2 : List Bool} (h1 : s ≤ s1) (h2 : s1 ≤ s2) (a : tyR g s (s1 - s) ts = some ts1) (b : tyR g s1 (s2 - s1) ts1 = some ts2) : tyR g s (s2 - s) ts = some ts2 := by
  have := tyR_app (s1 - s) (s2 - s1) s ts ts1 a
  rw [show s1 - s + (s2 - s1) = s2 - s from by omega, show s + (s1 - s) = s1 from by omega] at this
  rw [this]; exact b
theorem ty_one {g : Nat → Nat} {s : Nat} {ts ts' : List Bool} (h : tyS (g s) ts = some ts') (hl : ts'.length ≤ 64) : tyR g s (s + 1 - s) ts = some ts' := by
  rw [show s + 1 - s = 0 + 1 from by omega]
  unfold tyR
  rw [h]
  dsimp only
  rw [if_pos hl]
  unfold tyR; rfl
theorem ty_V {V V' : St} {s s' : Nat} {ts : List Bool} (h : ∀ k, k < 1280 + 2 * s' → V' 1 k = V 1 k) (hs : s ≤ s') : tyR (gd V') s (s' - s) ts = tyR (gd V) s (s' - s) ts :=
  tyR_congr _ _ _ (fun k h1 h2 => by unfold gd; rw [h _ (by omega)])
theorem gd_em (V : St) {s o : Nat} (ho : o < 2147483648) (a : Int32) : gd (emV V s (J o) a) s = o := by unfold gd; rw [(emV_o V s (J o) a).1, J_nat ho]
/-- a piece that was read -/
def SU (V L : St) (len N t s : Nat) (b : Bool) (x : Nat) (t' p' : Nat) (V' L' : St) (s' : Nat) : Prop :=
  t' ≤ N ∧ t < t' ∧ JC V len p' t' ∧ FV s V V' ∧ FL s L L' ∧ LD L' V' s' ∧ V' 13 0 = V 13 0 ∧ s' + t ≤ s + t' ∧ s ≤ s' ∧ TYP V' s s' b x
theorem SU.mono {V L : St} {len N t s : Nat} {b : Bool} {x y : Nat} {t' p' : Nat} {V' L' : St} {s' : Nat} (h : SU V L len N t s b x t' p' V' L' s') (hxy : x ≤ y) : SU V L len N t s b y t' p' V' L' s' := by
  obtain ⟨a1, a2, a3, a4, a5, a6, a7, a8, a9, a10⟩ := h
  exact ⟨a1, a2, a3, a4, a5, a6, a7, a8, a9, fun ts hts => a10 ts (by omega)⟩
theorem SU.bin {V L : St} {len N t s : Nat} {b1 b2 b : Bool} {x1 x2 x : Nat} {t1 p1 : Nat} {V1 L1 : St} {s1 : Nat} {t2 p2 : Nat} {V2 L2 : St} {s2 : Nat} {o : Nat}
    (h1 : SU V L len N t s b1 x1 t1 p1 V1 L1 s1) (h2 : SU V1 L1 len N (t1 + 1) s1 b2 x2 t2 p2 V2 L2 s2) (ho : o ≤ 14) (ho8 : o ≠ 8) (hx1 : x1 ≤ x) (hx2 : x2 + 1 ≤ x) (hty : ∀ ts, tyS o (b2 :: b1 :: ts) = some (b :: ts)) :
    SU V L len N t s b x t2 p2 (emV V2 s2 (J o) 0) (puL L2 s2 (sgn o 0)) (s2 + 1) := by
  obtain ⟨a1, a2, a3, a4, a5, a6, a7, a8, a9, a10⟩ := h1
  obtain ⟨c1, c2, c3, c4, c5, c6, c7, c8, c9, c10⟩ := h2
  have e8 : V1 8 = V 8 := a4.1 8 (by simp)
  refine ⟨c1, by omega, by unfold JC at c3 ⊢; rw [e8] at c3; exact c3, (a4.tr c4 a9).tr (emV_fr _ _ _ _) (by omega), (a5.tr c5 a9).tr (puL_fr _ _ _) (by omega), c6.em ho (fun q => absurd q ho8), by rw [emV_13, c7, a7], by omega, by omega, fun ts hts => ?_⟩
  have r1 : tyR (gd (emV V2 s2 (J o) 0)) s (s1 - s) ts = some (b1 :: ts) := by
    rw [ty_V (V := V1) (fun k hk => ((emV_fr V2 s2 (J o) 0).2 k (by omega)).trans (c4.2 k hk)) a9]; exact a10 ts (by omega)
  have r2 : tyR (gd (emV V2 s2 (J o) 0)) s1 (s2 - s1) (b1 :: ts) = some (b2 :: b1 :: ts) := by
    rw [ty_V (V := V2) (fun k hk => (emV_fr V2 s2 (J o) 0).2 k hk) c9]; exact c10 _ (by simp; omega)
  have r3 : tyR (gd (emV V2 s2 (J o) 0)) s2 (s2 + 1 - s2) (b2 :: b1 :: ts) = some (b :: ts) := ty_one (by rw [gd_em V2 (by omega)]; exact hty ts) (by simp; omega)
  exact ty_tr (by omega) (by omega) (ty_tr a9 c9 r1 r2) r3
theorem SU.un {V L : St} {len N t s : Nat} {x : Nat} {t2 p2 : Nat} {V2 L2 : St} {s2 : Nat} (h2 : SU V L len N (t + 1) s true x t2 p2 V2 L2 s2) (hx : 1 ≤ x) (hd : V2 13 0 = V 13 0) :
    SU V L len N t s true x t2 p2 (emV V2 s2 (J 12) 0) (puL L2 s2 (sgn 12 0)) (s2 + 1) := by
  obtain ⟨c1, c2, c3, c4, c5, c6, c7, c8, c9, c10⟩ := h2
  refine ⟨c1, by omega, c3, c4.tr (emV_fr _ _ _ _) (by omega), c5.tr (puL_fr _ _ _) (by omega), c6.em (by omega) (fun q => absurd q (by omega)), by rw [emV_13, c7], by omega, by omega, fun ts hts => ?_⟩
  have r2 : tyR (gd (emV V2 s2 (J 12) 0)) s (s2 - s) ts = some (true :: ts) := by
    rw [ty_V (V := V2) (fun k hk => (emV_fr V2 s2 (J 12) 0).2 k hk) c9]; exact c10 _ (by omega)
  have r3 : tyR (gd (emV V2 s2 (J 12) 0)) s2 (s2 + 1 - s2) (true :: ts) = some (true :: ts) := ty_one (by rw [gd_em V2 (by omega)]; rfl) (by simp; omega)
  exact ty_tr c9 (by omega) r2 r3
theorem SU.leaf {V L : St} {len N t s : Nat} (hL : LD L V s) {o : Nat} (ho : o ≤ 8) {a : Int32} (ha : o = 8 → inB a 0 999) {b : Bool} (hty : ∀ ts, tyS o ts = some (b :: ts)) (ht : t < N) {p' : Nat} (hp : JC V len p' (t + 1)) :
    SU V L len N t s b 1 (t + 1) p' (emV V s (J o) a) (puL L s (sgn o a)) (s + 1) := by
  refine ⟨by omega, by omega, hp, emV_fr _ _ _ _, puL_fr _ _ _, hL.em (by omega) ha, emV_13 _ _ _ _, by omega, by omega, fun ts hts => ?_⟩
  exact ty_one (by rw [gd_em V (by omega)]; exact hty ts) (by simp; omega)
def LQ (R V L : St) (len N t s : Nat) (b : Bool) (x : Nat) (a : Int32 × St × St) (c : Int32 × St) : Prop :=
  (∃ t' p' b' V' L' s', a = (1, RT R t', L') ∧ c = (1, PB V' p' b') ∧ SU V L len N t s b x t' p' V' L' s') ∨
  (∃ t' p' V' L', a = (0, RT R t', L') ∧ c = (0, PB V' p' (st (V 8) len t')) ∧ t' ≤ N ∧ FV s V V' ∧ Fr [4, 5] L L')
-- a part of a sum
def isF (c : Int32) : Bool := decide (c = 302 ∨ (320 ≤ c ∧ c ≤ 324))
theorem fact_o {c : Int32} (h : isF c = true) : ∃ o s, o < 6 ∧ c = J (300 + wix s) ∧ s < 26 ∧ 1 ≤ s ∧ -c = sgn o 0 ∧ ((o = 0 ∧ s = 13) ∨ (o = 1 ∧ s = 14) ∨ (o = 2 ∧ s = 15) ∨ (o = 3 ∧ s = 6) ∨ (o = 4 ∧ s = 16) ∨ (o = 5 ∧ s = 17)) := by
  unfold isF at h
  rw [decide_eq_true_eq] at h
  have h2 : c = 302 ∨ c = 320 ∨ c = 321 ∨ c = 322 ∨ c = 323 ∨ c = 324 := by
    rcases h with h | ⟨h1, h2⟩
    · exact .inl h
    · obtain ⟨k, e, k1, k2⟩ := J_rng2 (a := 320) (b := 324) h1 h2 (by omega) (by omega)
      rw [e]
      rcases (by omega : k = 320 ∨ k = 321 ∨ k = 322 ∨ k = 323 ∨ k = 324) with rfl | rfl | rfl | rfl | rfl
      · exact .inr (.inl rfl)
      · exact .inr (.inr (.inl rfl))
      · exact .inr (.inr (.inr (.inl rfl)))
      · exact .inr (.inr (.inr (.inr (.inl rfl))))
      · exact .inr (.inr (.inr (.inr (.inr rfl))))
  rcases h2 with rfl | rfl | rfl | rfl | rfl | rfl
  · exact ⟨3, 6, by omega, rfl, by omega, by omega, by decide, by omega⟩
  · exact ⟨0, 13, by omega, rfl, by omega, by omega, by decide, by omega⟩
  · exact ⟨1, 14, by omega, rfl, by omega, by omega, by decide, by omega⟩
  · exact ⟨2, 15, by omega, rfl, by omega, by omega, by decide, by omega⟩
  · exact ⟨4, 16, by omega, rfl, by omega, by omega, by decide, by omega⟩
  · exact ⟨5, 17, by omega, rfl, by omega, by omega, by decide, by omega⟩
theorem tyS_leaf {o : Nat} (h : o < 6 ∨ o = 8) (ts : List Bool) : tyS o ts = some (false :: ts) := by
  unfold tyS
  rcases h with h | h
  · rw [if_pos h]
  · rw [if_neg (by omega), if_neg (by omega), if_pos h]
theorem partT {n : Nat} (hn : 5000 < n) {tok V L : St} {len N : Nat} (h : CXt tok V len N) {t s : Nat} (ht : t ≤ N) (hs : s < 400) (hL : LD L V s) {p b : Nat} (hp : JC V len p t) :
    ((isF (cd (V 8) len (st (V 8) len t)) = true ∨ cd (V 8) len (st (V 8) len t) = 256) ∧ t < N ∧ ∃ o a p', (o < 6 ∨ o = 8) ∧ (o = 8 → inB a 0 999) ∧ JC V len p' (t + 1) ∧ (if isF (cd (V 8) len (st (V 8) len t)) then -(cd (V 8) len (st (V 8) len t)) else vl (V 8) len (st (V 8) len t)) = sgn o a ∧ m_X12_readPart n (PB V p b) = some (1, PB (emV V s (J o) a) p' (st (V 8) len t))) ∨
    (¬ (isF (cd (V 8) len (st (V 8) len t)) = true ∨ cd (V 8) len (st (V 8) len t) = 256) ∧ ∃ x y p', m_X12_readPart n (PB V p b) = some (0, PB (emV V s x y) p' (st (V 8) len t))) := by
  have hl := h.1.1
  have hj := stt_le (V 8) len t
  have hr := run_le isL (V 8) hj
  have hr1 : st (V 8) len t ≤ le_ (V 8) len (st (V 8) len t) := hr.1
  have hr2 : le_ (V 8) len (st (V 8) len t) ≤ len := hr.2
  by_cases q : le_ (V 8) len (st (V 8) len t) = st (V 8) len t
  · have hnl : isF (cd (V 8) len (st (V 8) len t)) = false := by
      rw [Bool.eq_false_iff]
      intro g
      obtain ⟨o, s', -, e, h1, h2, -⟩ := fact_o g
      obtain ⟨z1, z2⟩ := te_word hl h.2.2 hj (wix_wd s' h1 h2).2.1 e
      have := (te_le (V 8) z1).1
      omega
    rcases numberT hn h ht (JC.st V len t) (b := st (V 8) len t) 0 999 with ⟨k, h1, p', h2, e⟩ | ⟨k, p', e⟩
    · obtain ⟨v1, v2, v3⟩ := vl_nn hl h.2.2 hj k.1
      have e8 : m_X12_emits n (PB V p' (st (V 8) len t)) 8 (vl (V 8) len (st (V 8) len t)) = some (PB (emV V s (J 8) (vl (V 8) len (st (V 8) len t))) p' (st (V 8) len t)) := emR n hs hL.2.1 _ _ _ _
      refine .inl ⟨.inr k.1, h1, 8, vl (V 8) len (st (V 8) len t), p', .inr rfl, fun _ => vl_rng hl h.2.2 hj (a := 0) (b := 999) (by omega) (by omega) k, h2, by rw [hnl]; rfl, ?_⟩
      unfold m_X12_readPart
      rw [lettersT hn h hp, bd_s, PB_p, PB_b, if_pos (show J (le_ (V 8) len (st (V 8) len t)) = J (st (V 8) len t) by rw [q]), q, e, bd_s]
      dsimp only
      rw [e8, bd_s, bd_s, if_neg v2]
    · have hne : ¬ cd (V 8) len (st (V 8) len t) = 256 := fun g => by
        obtain ⟨-, -, kk, ek, -, hk⟩ := te_num hl h.2.2 hj g
        apply k
        refine ⟨g, ?_, ?_⟩
        · rw [ek, show (0 : Int32) = J 0 from rfl, J_le (by omega) (by omega)]; omega
        · rw [ek, show (999 : Int32) = J 999 from rfl, J_le (by omega) (by omega)]; exact hk
      refine .inr ⟨fun g => by rcases g with g | g; rw [hnl] at g; cases g; exact hne g, 8, -1, p', ?_⟩
      unfold m_X12_readPart
      rw [lettersT hn h hp, bd_s, PB_p, PB_b, if_pos (show J (le_ (V 8) len (st (V 8) len t)) = J (st (V 8) len t) by rw [q]), q, e, bd_s]
      dsimp only
      rw [emR n hs hL.2.1, bd_s, bd_s]
      dsimp only
      rw [if_pos (by decide)]
  · have hw : ∀ s', s' < 26 → 1 ≤ s' → m_X12_isWord n (PB V (le_ (V 8) len (st (V 8) len t)) (st (V 8) len t)) s' = some (b2 (decide (cd (V 8) len (st (V 8) len t) = J (300 + wix s')))) := fun s' h1 h2 => wordT hn h t h1 h2
    by_cases g : isF (cd (V 8) len (st (V 8) len t)) = true
    · obtain ⟨o, s', ho, e, h1, h2, hsg, hos⟩ := fact_o g
      obtain ⟨n1, n2⟩ := nextW h ht (wix_wd s' h1 h2).2.1 e
      refine .inl ⟨.inl g, n1, o, 0, _, .inl ho, fun z => by omega, n2, by rw [g, if_pos rfl]; exact hsg, ?_⟩
      have ev : (if b2 (decide (cd (V 8) len (st (V 8) len t) = J (300 + wix 13))) = 0 then (if b2 (decide (cd (V 8) len (st (V 8) len t) = J (300 + wix 14))) = 0 then (if b2 (decide (cd (V 8) len (st (V 8) len t) = J (300 + wix 15))) = 0 then (if b2 (decide (cd (V 8) len (st (V 8) len t) = J (300 + wix 6))) = 0 then (if b2 (decide (cd (V 8) len (st (V 8) len t) = J (300 + wix 16))) = 0 then (if b2 (decide (cd (V 8) len (st (V 8) len t) = J (300 + wix 17))) = 0 then some (-1) else some 5) else some 4) else some 3) else some 2) else some 1) else some 0) = some (J o) := by
        rw [e]
        rcases hos with ⟨rfl, rfl⟩ | ⟨rfl, rfl⟩ | ⟨rfl, rfl⟩ | ⟨rfl, rfl⟩ | ⟨rfl, rfl⟩ | ⟨rfl, rfl⟩ <;> decide
      unfold m_X12_readPart
      rw [lettersT hn h hp, bd_s, PB_p, PB_b, if_neg (show ¬ J (le_ (V 8) len (st (V 8) len t)) = J (st (V 8) len t) by rw [J_inj (by omega) (by omega)]; exact q), hw 13 (by omega) (by omega), bd_s, hw 14 (by omega) (by omega), bd_s, hw 15 (by omega) (by omega), bd_s, hw 6 (by omega) (by omega), bd_s, hw 16 (by omega) (by omega), bd_s, hw 17 (by omega) (by omega), bd_s]
      rw [ev, bd_s, emR n hs hL.2.1, bd_s, bd_s]
      dsimp only
      rw [if_neg (J_nn (by omega))]
    · have hne : ¬ cd (V 8) len (st (V 8) len t) = 256 := fun g2 => by
        rcases cd_kinds hl h.2.2 hj with ⟨a, b'⟩ | ⟨a, a2, b'⟩ | ⟨a, a2, a3, b'⟩ | ⟨a, a2, a3, b'⟩
        · exact q (le_id hj (.inl a))
        · rw [show (256 : Int32) = J 256 from rfl] at g2
          rcases b' with b' | ⟨k, hk, b'⟩
          · rw [b', J_inj (by omega) (by omega)] at g2; omega
          · rw [b', J_inj (by omega) (by omega)] at g2; omega
        · exact q (le_id hj (.inr a2))
        · exact q (le_id hj (.inr a2))
      have hno : ∀ s', s' < 26 → 1 ≤ s' → isF (J (300 + wix s')) = true → decide (cd (V 8) len (st (V 8) len t) = J (300 + wix s')) = false := fun s' _ _ hf => by
        rw [decide_eq_false]; intro e; rw [e] at g; exact g hf
      refine .inr ⟨fun z => by rcases z with z | z; exact g z; exact hne z, -1, 0, le_ (V 8) len (st (V 8) len t), ?_⟩
      unfold m_X12_readPart
      rw [lettersT hn h hp, bd_s, PB_p, PB_b, if_neg (show ¬ J (le_ (V 8) len (st (V 8) len t)) = J (st (V 8) len t) by rw [J_inj (by omega) (by omega)]; exact q), hw 13 (by omega) (by omega), bd_s, hw 14 (by omega) (by omega), bd_s, hw 15 (by omega) (by omega), bd_s, hw 6 (by omega) (by omega), bd_s, hw 16 (by omega) (by omega), bd_s, hw 17 (by omega) (by omega), bd_s]
      rw [hno 13 (by omega) (by omega) (by decide), hno 14 (by omega) (by omega) (by decide), hno 15 (by omega) (by omega) (by decide), hno 6 (by omega) (by omega) (by decide), hno 16 (by omega) (by omega) (by decide), hno 17 (by omega) (by omega) (by decide)]
      rw [if_pos (show b2 false = 0 by decide), if_pos (show b2 false = 0 by decide), if_pos (show b2 false = 0 by decide), if_pos (show b2 false = 0 by decide), if_pos (show b2 false = 0 by decide), if_pos (show b2 false = 0 by decide), bd_s, emR n hs hL.2.1, bd_s, bd_s]
      dsimp only
      rw [if_pos (by decide)]
end PLAWR
