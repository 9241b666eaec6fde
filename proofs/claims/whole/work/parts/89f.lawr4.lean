section PLAWR4
theorem bd_bd {α β γ : Type} (x : Option α) (f : α → Option β) (g : β → Option γ) : bd (bd x f) g = bd x (fun a => bd (f a) g) := by cases x <;> rfl
theorem LD.deep {L V : St} {s : Nat} (h : LD L V s) (x : Int32) : LD L (su V 13 0 x) s := by
  unfold LD
  rw [su_n V 13 0 x (h := 16) (by decide), su_n V 13 0 x (h := 1) (by decide)]
  exact h
theorem SU.deep {V L : St} {len N t s : Nat} {b : Bool} {x : Nat} {t' p' : Nat} {V' L' : St} {s' : Nat} {a c : Int32} (h : SU (su V 13 0 a) L len N t s b x t' p' V' L' s') (hc : V 13 0 = c) : SU V L len N t s b x t' p' (su V' 13 0 c) L' s' := by
  obtain ⟨a1, a2, a3, a4, a5, a6, a7, a8, a9, a10⟩ := h
  refine ⟨a1, a2, ?_, ?_, a5, a6.deep c, ?_, a8, a9, ?_⟩
  · unfold JC at a3 ⊢; rw [su_n V 13 0 a (h := 8) (by decide)] at a3; exact a3
  · refine ⟨?_, fun k hk => ?_⟩
    · exact (((Fr.rfl [1, 13, 16] V).put (by simp) 0 a).tr a4.1).put (by simp) 0 c
    · rw [su_n V' 13 0 c (h := 1) (by decide), a4.2 k hk, su_n V 13 0 a (h := 1) (by decide)]
  · rw [su_e, upd_e, hc]
  · intro ts hts
    have : gd (su V' 13 0 c) = gd V' := by funext i; unfold gd; rw [su_n V' 13 0 c (h := 1) (by decide)]
    rw [this]; exact a10 ts hts
theorem SU.ext {V L : St} {len N t s : Nat} {b : Bool} {x : Nat} {t' p' p'' : Nat} {V' L' : St} {s' : Nat} (h : SU V L len N (t + 1) s b x t' p' V' L' s') (ht : t' < N) (hp : JC V len p'' (t' + 1)) : SU V L len N t s b x (t' + 1) p'' V' L' s' := by
  obtain ⟨a1, a2, a3, a4, a5, a6, a7, a8, a9, a10⟩ := h
  exact ⟨by omega, by omega, hp, a4, a5, a6, a7, by omega, a9, a10⟩
theorem FV.deep {s : Nat} {V V' : St} {a : Int32} (h : FV s (su V 13 0 a) V') : FV s V V' :=
  ⟨((Fr.rfl [1, 13, 16] V).put (by simp) 0 a).tr h.1, fun k hk => by rw [h.2 k hk, su_n V 13 0 a (h := 1) (by decide)]⟩
theorem FV.deep2 {s : Nat} {V V' : St} {a : Int32} (h : FV s V V') : FV s V (su V' 13 0 a) :=
  ⟨h.1.put (by simp) 0 a, fun k hk => by rw [su_n V' 13 0 a (h := 1) (by decide), h.2 k hk]⟩
theorem atomT {n : Nat} (hn : 5000 < n) {tok R : St} {len N dX dR deep x : Nat} (hd : deep ≤ 6) (hx : 3 ≤ x) (hx6 : x ≤ 40)
    (h0 : deep < 6 → RD n tok R len N (fun v0 v2 => G_X6_readAny n dX 0 v0 tok v2 (J (deep + 1)) 0) (fun v0 => G_X12_readCond n dR 0 v0) (deep + 1) x)
    (h2 : deep < 6 → RD n tok R len N (fun v0 v2 => G_X6_readAny n dX 2 v0 tok v2 (J (deep + 1)) 0) (fun v0 => G_X12_readCond n dR 2 v0) (deep + 1) x) :
    RD n tok R len N (fun v0 v2 => G_X6_readAny n (dX + 2) 2 v0 tok v2 (J deep) 0) (fun v0 => G_X12_readCond n (dR + 1) 2 v0) deep x := by
  intro V L t s p b h ht hst hL h13 hp
  have hl := h.1.1
  have hN : N ≤ len := h.2.1.1
  have j6 : (6 ≤ J deep) ↔ deep = 6 := by rw [show (6 : Int32) = J 6 from rfl, J_le (by omega) (by omega)]; omega
  have j6' : (J deep = 6) ↔ deep = 6 := by rw [show (6 : Int32) = J 6 from rfl, J_inj (by omega) (by omega)]
  have jp : J (deep + 1) - 1 = J deep := J_pred (k := deep + 1) (by omega)
  have d13 : ∀ p b, PB V p b 13 0 = J deep := fun p b => by rw [PB_n _ _ _ (by decide) (by decide)]; exact h13
  dsimp only
  rw [G_X6_readAny, G_X12_readCond, RT_at, codeX n hl h.2.1 ht, bd_s]
  all_goals try (intro z; omega)
  simp only [jn_s]
  rcases signT hn h ht hp (b := b) (c := 40) (by omega) (by decide) (by decide) with ⟨q, q2, p2, q3, e⟩ | ⟨q, e⟩
  · have e' : m_X12_sign n (PB V p b) 40 = some (1, PB V p2 (st (V 8) len t)) := e
    have q' : cd (V 8) len (st (V 8) len t) = 40 := q
    rw [e', bd_s, q']
    dsimp only
    rw [if_neg (show ¬ ((40 : Int32) = 317) by decide), if_pos rfl, if_neg (show ¬ ((1 : Int32) = 0) by decide)]
    simp only [d13]
    by_cases hd6 : deep = 6
    · rw [if_pos (j6.2 hd6), if_pos (j6'.2 hd6)]
      exact ok2_some (.inr ⟨t, p2, V, L, rfl, rfl, ht, FV.rfl _ _, Fr.rfl _ _⟩)
    · rw [if_neg (fun g => hd6 (j6.1 g)), if_neg (fun g => hd6 (j6'.1 g)), nm_s, dV, J_succ]
      rw [G_X6_readAny]
      all_goals try (intro z; omega)
      rw [nm_s, if_pos rfl]
      simp only [jn_s]
      rw [RT_at, J_succ, RT_RT, bd_bd]
      have hc1 : CXt tok (su V 13 0 (J (deep + 1))) len N := h.eq (su_n _ _ _ _ (by decide)) (by rw [su_n _ _ _ _ (by decide)])
      have hj1 : JC (su V 13 0 (J (deep + 1))) len p2 (t + 1) := by unfold JC; rw [su_n _ _ _ _ (by decide)]; exact q3
      refine ok2_bd (h0 (by omega) (su V 13 0 (J (deep + 1))) L (t + 1) s p2 (st (V 8) len t) hc1 (by omega) (by omega) (hL.deep _) (by rw [su_e, upd_e]) hj1) ?_
      rintro a c (⟨t1, p1, b1, V1, L1, s1, rfl, rfl, hS⟩ | ⟨t1, p1, V1, L1, rfl, rfl, g1, g2, g3⟩)
      · dsimp only
        obtain ⟨hcc, e8⟩ := hS.cx hc1
        have e13 : V1 13 0 = J (deep + 1) := by rw [hS.2.2.2.2.2.2.1, su_e, upd_e]
        have ht1 : t1 ≤ N := hS.1
        have hS' := hS.deep h13
        have hcs : CXt tok (su V1 13 0 (J deep)) len N := hcc.eq (su_n _ _ _ _ (by decide)) (by rw [su_n _ _ _ _ (by decide)])
        have e8s : (su V1 13 0 (J deep)) 8 = V 8 := by rw [su_n _ _ _ _ (by decide), e8, su_n _ _ _ _ (by decide)]
        have hv8 : su V1 13 0 (J deep) 8 = V1 8 := su_n _ _ _ _ (by decide)
        have hjs : JC (su V1 13 0 (J deep)) len p1 t1 := by have := hS'.2.2.1; unfold JC at this ⊢; rw [e8s]; exact this
        rw [if_neg (show ¬ ((1 : Int32) = 0) by decide), if_neg (show ¬ ((1 : Int32) = 0) by decide), nm_s, dV, PB_n _ _ _ (by decide) (by decide), e13, jp, skip6 n hl hcc.2.1 ht1, bd_s]
        rcases signT hn hcs ht1 hjs (b := b1) (c := 41) (by omega) (by decide) (by decide) with ⟨r, r2, p3, r3, e⟩ | ⟨r, e⟩
        · have r' : cd (V1 8) len (st (V1 8) len t1) = 41 := by rw [hv8] at r; exact r
          have e'' : m_X12_sign n (PB (su V1 13 0 (J deep)) p1 b1) 41 = some (1, PB (su V1 13 0 (J deep)) p3 (st (su V1 13 0 (J deep) 8) len t1)) := e
          rw [if_pos r', e'', bd_s]
          dsimp only
          rw [if_neg (show ¬ ((1 : Int32) = 0) by decide), if_pos (by decide), bd_s]
          dsimp only
          rw [if_neg (show ¬ ((1 : Int32) = 0) by decide)]
          exact ok2_some (.inl ⟨t1 + 1, p3, _, _, L1, s1, rfl, rfl, hS'.ext r2 (by unfold JC at r3 ⊢; rw [e8s] at r3; exact r3)⟩)
        · have r' : ¬ cd (V1 8) len (st (V1 8) len t1) = 41 := by rw [hv8] at r; exact r
          have e'' : m_X12_sign n (PB (su V1 13 0 (J deep)) p1 b1) 41 = some (0, PB (su V1 13 0 (J deep)) (st (su V1 13 0 (J deep) 8) len t1) (st (su V1 13 0 (J deep) 8) len t1)) := e
          rw [if_neg r', e'', bd_s]
          dsimp only
          rw [if_pos rfl, if_pos (by decide), bd_s]
          dsimp only
          rw [if_pos rfl]
          exact ok2_some (.inr ⟨t1, _, _, L1, rfl, by rw [e8s], ht1, hS'.2.2.2.1, hS.2.2.2.2.1.1⟩)
      · dsimp only
        rw [if_pos rfl, if_pos rfl, bd_s]
        dsimp only
        rw [if_pos rfl]
        exact ok2_some (.inr ⟨t1, p1, V1, L1, rfl, by rw [su_n _ _ _ _ (by decide)], g1, g2.deep, g3⟩)
  · have e' : m_X12_sign n (PB V p b) 40 = some (0, PB V (st (V 8) len t) (st (V 8) len t)) := e
    have q' : ¬ cd (V 8) len (st (V 8) len t) = 40 := q
    rw [e', bd_s]
    dsimp only
    rw [if_pos rfl]
    have hp1 : JC V len (st (V 8) len t) t := JC.st V len t
    rcases passT hn h ht hp1 (b := st (V 8) len t) (s := 20) (by omega) (by omega) with ⟨r, r2, p2, r3, e⟩ | ⟨r, e⟩
    · have r' : cd (V 8) len (st (V 8) len t) = 317 := r
      rw [e, bd_s, r', if_pos rfl]
      dsimp only
      rw [if_neg (show ¬ ((1 : Int32) = 0) by decide)]
      simp only [d13]
      by_cases hd6 : deep = 6
      · rw [if_pos (j6.2 hd6), if_pos (j6'.2 hd6)]
        exact ok2_some (.inr ⟨t, p2, V, L, rfl, rfl, ht, FV.rfl _ _, Fr.rfl _ _⟩)
      · rw [if_neg (fun g => hd6 (j6.1 g)), if_neg (fun g => hd6 (j6'.1 g)), nm_s, dV, J_succ]
        rw [G_X6_readAny]
        all_goals try (intro z; omega)
        rw [nm_s, if_neg (show ¬ ((317 : Int32) = 40) by decide)]
        try simp only [jn_s]
        rw [RT_at, J_succ, RT_RT, bd_bd]
        have hc1 : CXt tok (su V 13 0 (J (deep + 1))) len N := h.eq (su_n _ _ _ _ (by decide)) (by rw [su_n _ _ _ _ (by decide)])
        have hj1 : JC (su V 13 0 (J (deep + 1))) len p2 (t + 1) := by unfold JC; rw [su_n _ _ _ _ (by decide)]; exact r3
        refine ok2_bd (h2 (by omega) (su V 13 0 (J (deep + 1))) L (t + 1) s p2 (st (V 8) len t) hc1 (by omega) (by omega) (hL.deep _) (by rw [su_e, upd_e]) hj1) ?_
        rintro a c (⟨t1, p1, b1, V1, L1, s1, rfl, rfl, hS⟩ | ⟨t1, p1, V1, L1, rfl, rfl, g1, g2, g3⟩)
        · dsimp only
          have e13 : V1 13 0 = J (deep + 1) := by rw [hS.2.2.2.2.2.2.1, su_e, upd_e]
          have ht1 : t1 ≤ N := hS.1
          have hS' := hS.deep h13
          have hsz : s1 + (t + 1) ≤ s + t1 := hS.2.2.2.2.2.2.2.1
          have hLD : LD L1 (su V1 13 0 (J deep)) s1 := hS'.2.2.2.2.2.1
          have e12 : m_X12_emits n (PB (su V1 13 0 (J deep)) p1 b1) 12 0 = some (PB (emV (su V1 13 0 (J deep)) s1 (J 12) 0) p1 b1) := emR n (by omega) hLD.2.1 _ _ _ _
          rw [if_neg (show ¬ ((1 : Int32) = 0) by decide), if_neg (show ¬ ((1 : Int32) = 0) by decide), nm_s, dV, PB_n _ _ _ (by decide) (by decide), e13, jp, e12, bd_s, puX n (by omega) hLD.1, bd_s, bd_s]
          dsimp only
          rw [if_neg (show ¬ ((1 : Int32) = 0) by decide)]
          exact ok2_some (.inl ⟨t1, p1, b1, _, _, s1 + 1, rfl, rfl, SU.un hS' (by omega) (by rw [su_e, upd_e, h13])⟩)
        · dsimp only
          rw [if_pos rfl, if_pos rfl, bd_s]
          dsimp only
          rw [if_pos rfl]
          exact ok2_some (.inr ⟨t1, p1, V1, L1, rfl, by rw [su_n _ _ _ _ (by decide)], g1, g2.deep, g3⟩)
    · have r' : ¬ cd (V 8) len (st (V 8) len t) = 317 := r
      rw [e, bd_s, if_neg r', if_neg q']
      dsimp only
      rw [if_pos rfl]
      rcases tagR hn h ht (s := s) (by omega) hL hp1 (b := st (V 8) len t) with ⟨o, p3, ho, k1, k2, k3, e3⟩ | ⟨k1, k2, e3⟩
      · rw [e3, bd_s]
        dsimp only
        rw [if_neg (show ¬ ((1 : Int32) = 0) by decide), nm_s, J_succ, RT_RT, puX n (by omega) hL.1, bd_s, k1]
        have hty : ∀ ts, tyS o ts = some (true :: ts) := fun ts => by rcases ho with rfl | rfl <;> rfl
        have hsg : - J (312 + o) = sgn o 0 := by rcases ho with rfl | rfl <;> decide
        rw [hsg]
        have hif : ∀ {α : Type} (A B : α), (if J (312 + o) = 318 then A else if J (312 + o) = 319 then A else B) = A := fun A B => by
          rcases ho with rfl | rfl
          · rw [if_pos (by decide)]
          · rw [if_neg (by decide), if_pos (by decide)]
        rw [hif]
        exact ok2_some (.inl ⟨t + 1, p3, _, _, _, s + 1, rfl, rfl, (SU.leaf hL (by omega) (fun z => by omega) hty k2 k3).mono (by omega)⟩)
      · rw [e3, bd_s, if_neg k1, if_neg k2]
        dsimp only
        rw [if_pos rfl]
        refine (cmpT hn h ht hst hL hp1 (R := R) (b := st (V 8) len t)).mono ?_
        rintro a c (⟨t1, p1, b1, V1, L1, s1, rfl, rfl, hS⟩ | z)
        · exact .inl ⟨t1, p1, b1, V1, L1, s1, rfl, rfl, hS.mono hx⟩
        · exact .inr z
theorem atomsT {n : Nat} (hn : 5000 < n) {tok R : St} {len N : Nat} : ∀ (e deep dX dR : Nat), e + deep = 6 → 4 * e + 2 ≤ dX → 3 * e + 1 ≤ dR →
    RD n tok R len N (fun v0 v2 => G_X6_readAny n dX 2 v0 tok v2 (J deep) 0) (fun v0 => G_X12_readCond n dR 2 v0) deep (3 + 2 * e)
  | 0, deep, dX, dR, h1, h2, h3 => by
    obtain ⟨dX, rfl⟩ : ∃ j, dX = j + 2 := ⟨dX - 2, by omega⟩
    obtain ⟨dR, rfl⟩ : ∃ j, dR = j + 1 := ⟨dR - 1, by omega⟩
    exact atomT hn (by omega) (by omega) (by omega) (fun g => by omega) (fun g => by omega)
  | e + 1, deep, dX, dR, h1, h2, h3 => by
    obtain ⟨dX, rfl⟩ : ∃ j, dX = j + 4 := ⟨dX - 4, by omega⟩
    obtain ⟨dR, rfl⟩ : ∃ j, dR = j + 3 := ⟨dR - 3, by omega⟩
    have ih0 := atomsT hn (tok := tok) (R := R) (len := len) (N := N) e (deep + 1) dX dR (by omega) (by omega) (by omega)
    have ih2 := atomsT hn (tok := tok) (R := R) (len := len) (N := N) e (deep + 1) (dX + 2) (dR + 2) (by omega) (by omega) (by omega)
    refine atomT hn (by omega) (by omega) (by omega) (fun _ => ?_) (fun _ => ?_)
    · exact anyT hn (allT hn ih0)
    · intro V L t s p b c1 c2 c3 c4 c5 c6
      refine (ih2 V L t s p b c1 c2 c3 c4 c5 c6).mono ?_
      rintro a c (⟨t1, p1, b1, V1, L1, s1, rfl, rfl, hS⟩ | z)
      · exact .inl ⟨t1, p1, b1, V1, L1, s1, rfl, rfl, hS.mono (by omega)⟩
      · exact .inr z
/-- a whole condition -/
theorem condT {n : Nat} (hn : 5000 < n) {tok R : St} {len N : Nat} : RD n tok R len N (fun v0 v2 => m_X6_readAny n v0 tok v2 0) (fun v0 => m_X12_readCond n v0) 0 17 := by
  have := anyT hn (allT hn (atomsT hn (tok := tok) (R := R) (len := len) (N := N) 6 0 62 62 (by omega) (by omega) (by omega)))
  unfold m_X6_readAny m_X12_readCond
  exact this
end PLAWR4
