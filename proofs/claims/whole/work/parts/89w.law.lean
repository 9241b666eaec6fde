section PLAW
abbrev LawT : Type := Int32 × St × St × St × St × St × St × St × St × St × St × St × St × St × St × St × St × (Nat → St) × (Nat → St) × St × (Nat → Int64)
def bz (x : Int32) : Int32 := if x = 0 then 0 else 1
theorem bz_b (x : Int32) : isb (bz x) := by unfold bz isb; split <;> simp
theorem ifb (x : Int32) : (if x = 0 then some 0 else some 1 : Option Int32) = some (bz x) := by unfold bz; split <;> rfl
theorem ok_jnK {τ ρ : Type} {f : τ → Option ρ} {b : (τ → Option ρ) → Option ρ} {Q : ρ → Prop} (h : ∀ K, K = f → Ok (b K) Q) : Ok (jn f b) Q := h f rfl
theorem cmp0 (x : Int64) : lg_cmp x x = 0 := by unfold lg_cmp; simp
theorem tailQ {n : Nat} {c r : Int32} {V : St} {o : Int64} (h0 : V 0 0 = c) (hc : c = 0 → o = r.toInt64) {A : Option Int32} : bd (m_X12_thrown n V) (fun t => (if t = c then jn (fun (_ : Unit) => A) (fun (K : Unit → Option Int32) => (if c = 0 then (if (lg_cmp o (r).toInt64) = 0 then K () else some 0) else K ())) else some 0)) = A := by
  unfold m_X12_thrown
  rw [bd_s, if_pos h0, jn_s]
  by_cases q : c = 0
  · rw [if_pos q, hc q, cmp0, if_pos rfl]
  · rw [if_neg q]
theorem tailP {n : Nat} {c r : Int32} {V : St} {o : Int64} (h0 : V 0 0 = c) (hc : c = 0 → o = if r = 0 then 0 else 1) {A : Option Int32} : bd (m_X12_thrown n V) (fun t => (if t = c then jn (fun (_ : Unit) => A) (fun (K : Unit → Option Int32) => (if c = 0 then bd ((if r = 0 then some 0 else some 1)) (fun (t80 : Int64) => (if (lg_cmp o t80) = 0 then K () else some 0)) else K ())) else some 0)) = A := by
  unfold m_X12_thrown
  rw [bd_s, if_pos h0, jn_s]
  by_cases q : c = 0
  · rw [if_pos q, hc q]
    by_cases g : r = 0
    · rw [if_pos g, if_pos g, bd_s, cmp0, if_pos rfl]
    · rw [if_neg g, if_neg g, bd_s, cmp0, if_pos rfl]
  · rw [if_neg q]
theorem end_iff {L i : Nat} (hL : L ≤ 3072) (hi : i ≤ 4000) : (Int32.ofNat L - 6 < Int32.ofNat i) ↔ L < i + 6 := by
  by_cases h : 6 ≤ L
  · rw [show Int32.ofNat L - 6 = J (L - 6) from J_sub (b := 6) h, show (Int32.ofNat i) = J i from rfl, J_lt (by omega) (by omega)]; omega
  · have h1 : ∀ L : Nat, L < 6 → J L - 6 < 0 := by decide
    have h2 := h1 L (by omega)
    have h3 := J_nn (k := i) (by omega)
    constructor
    · intro _; omega
    · intro _; show J L - 6 < J i; grind
set_option maxRecDepth 4000 in
theorem lawLoop {n : Nat} (hn : 5000 < n) {L : Nat} (hL : L ≤ 3072) (xs : Nat → Int32) (v0 v1 v2 v3 v4 v5 v6 v7 v8 v9 v10 v11 v12 v13 v14 v15 : St) (v16 v17 : Nat → St) (v18 : St) (v19 : Nat → Int64) (h0 : RI v0 v1 v3 v4 v5 v6 v7 v10 v12 v13 v14 v15 v16 v17 v18) : Ok (m_law n L xs v0 v1 v2 v3 v4 v5 v6 v7 v8 v9 v10 v11 v12 v13 v14 v15 v16 v17 v18 v19) (fun r => r = 1) := by
  unfold m_law
  refine ok_lp (μ := fun (x : LawT) => (L + 6 - x.1.toNatClampNeg) / 6) (I := fun (x : LawT) => ∃ i, x.1 = J i ∧ i ≤ L + 6 ∧ RI x.2.1 x.2.2.1 x.2.2.2.2.1 x.2.2.2.2.2.1 x.2.2.2.2.2.2.1 x.2.2.2.2.2.2.2.1 x.2.2.2.2.2.2.2.2.1 x.2.2.2.2.2.2.2.2.2.2.2.1 x.2.2.2.2.2.2.2.2.2.2.2.2.2.1 x.2.2.2.2.2.2.2.2.2.2.2.2.2.2.1 x.2.2.2.2.2.2.2.2.2.2.2.2.2.2.2.1 x.2.2.2.2.2.2.2.2.2.2.2.2.2.2.2.2.1 x.2.2.2.2.2.2.2.2.2.2.2.2.2.2.2.2.2.1 x.2.2.2.2.2.2.2.2.2.2.2.2.2.2.2.2.2.2.1 x.2.2.2.2.2.2.2.2.2.2.2.2.2.2.2.2.2.2.2.1) ?_ 600 _ ?_ ?_
  rotate_left
  · exact ⟨0, rfl, by omega, h0⟩
  · show (L + 6 - _) / 6 < 600
    omega
  clear h0 v0 v1 v2 v3 v4 v5 v6 v7 v8 v9 v10 v11 v12 v13 v14 v15 v16 v17 v18 v19
  rintro rc ⟨i, v0, v1, v2, v3, v4, v5, v6, v7, v8, v9, v10, v11, v12, v13, v14, v15, v16, v17, v18, v19⟩ ⟨i0, hi, hiL, h⟩ ih
  dsimp only at hi h
  subst hi
  have ih' : ∀ v0 v1 v2 v3 v4 v5 v6 v7 v8 v9 v10 v11 v12 v13 v14 v15 v16 v17 v18 v19, i0 + 6 ≤ L → RI v0 v1 v3 v4 v5 v6 v7 v10 v12 v13 v14 v15 v16 v17 v18 → Ok (rc (J i0 + 6, v0, v1, v2, v3, v4, v5, v6, v7, v8, v9, v10, v11, v12, v13, v14, v15, v16, v17, v18, v19)) (fun r => r = 1) := by
    intro v0 v1 v2 v3 v4 v5 v6 v7 v8 v9 v10 v11 v12 v13 v14 v15 v16 v17 v18 v19 hl hh
    have e : J i0 + 6 = J (i0 + 6) := J_add i0 6
    rw [e]
    refine ih _ ⟨i0 + 6, rfl, by omega, hh⟩ ?_
    show (L + 6 - (J (i0 + 6)).toNatClampNeg) / 6 < (L + 6 - (J i0).toNatClampNeg) / 6
    rw [J_nat (by omega), J_nat (by omega)]; omega
  clear ih
  dsimp only
  by_cases q : L < i0 + 6
  · rw [if_pos ((end_iff hL (by omega)).mpr q)]; exact ok_some rfl
  rw [if_neg (fun g => q ((end_iff hL (by omega)).mp g)), if_pos (show ix (J i0) L from J_ix (by omega) (by omega))]
  have x1 : ix (J i0 + 1) L := by have e : J i0 + 1 = J (i0 + 1) := J_add i0 1; rw [e]; exact J_ix (by omega) (by omega)
  have x2 : ix (J i0 + 2) L := by have e : J i0 + 2 = J (i0 + 2) := J_add i0 2; rw [e]; exact J_ix (by omega) (by omega)
  have x3 : ix (J i0 + 3) L := by have e : J i0 + 3 = J (i0 + 3) := J_add i0 3; rw [e]; exact J_ix (by omega) (by omega)
  have x4 : ix (J i0 + 4) L := by have e : J i0 + 4 = J (i0 + 4) := J_add i0 4; rw [e]; exact J_ix (by omega) (by omega)
  have x5 : ix (J i0 + 5) L := by have e : J i0 + 5 = J (i0 + 5) := J_add i0 5; rw [e]; exact J_ix (by omega) (by omega)
  refine ok_jnK ?_
  intro K hK
  have hk : ∀ u0 u1 u2 u3 u4 u5 u6 u7 u8 u9 u10 u11 u12 u13 u14 u15 u16 u17 u18 u19, RI u0 u1 u3 u4 u5 u6 u7 u10 u12 u13 u14 u15 u16 u17 u18 → Ok (K (u0, u1, u2, u3, u4, u5, u6, u7, u8, u9, u10, u11, u12, u13, u14, u15, u16, u17, u18, u19)) (fun r => r = 1) := by
    intro u0 u1 u2 u3 u4 u5 u6 u7 u8 u9 u10 u11 u12 u13 u14 u15 u16 u17 u18 u19 hh
    rw [hK]
    exact ih' u0 u1 u2 u3 u4 u5 u6 u7 u8 u9 u10 u11 u12 u13 u14 u15 u16 u17 u18 u19 (by omega) hh
  clear hK ih'
  rw [nm_s]
  generalize xs (J i0 + 1).toNatClampNeg = y1
  generalize xs (J i0 + 2).toNatClampNeg = y2
  generalize xs (J i0 + 3).toNatClampNeg = y3
  generalize xs (J i0 + 4).toNatClampNeg = y4
  generalize xs (J i0 + 5).toNatClampNeg = y5
  generalize (xs (J i0).toNatClampNeg &&& 63) = w
  by_cases c0 : w = 0
  · rw [if_pos c0]
    obtain ⟨a0, a1, a2, V', e1, e2, hh⟩ := rFeed hn h y1 y2 y3 y4 y5
    rw [if_pos x1, if_pos x2, if_pos x3, if_pos x4, if_pos x5, e1, bd_s, if_pos x1, if_pos x2, if_pos x3, if_pos x4, if_pos x5, e2, bd_s]
    try dsimp only
    rw [if_pos rfl]
    exact hk _ _ _ _ _ _ _ _ _ _ _ _ _ _ _ _ _ _ _ _ hh
  rw [if_neg c0]
  by_cases c1 : w = 1
  · rw [if_pos c1]
    obtain ⟨a0, a1, V', e1, e2, hh⟩ := rEnd h y1
    rw [if_pos x1, e1, bd_s, if_pos x1, e2, bd_s]
    try dsimp only
    rw [if_pos rfl]
    exact hk _ _ _ _ _ _ _ _ _ _ _ _ _ _ _ _ _ _ _ _ hh
  rw [if_neg c1]
  by_cases c2 : w = 2
  · rw [if_pos c2]
    obtain ⟨c, a, r, V', e1, e2, z0, zc, hP⟩ := qHill hn h v2 v8 v19
    rw [e1, bd_s, e2, bd_s]
    dsimp only
    rw [tailQ z0 zc]
    exact hk _ _ _ _ _ _ _ _ _ _ _ _ _ _ _ _ _ _ _ _ hP
  rw [if_neg c2]
  by_cases c3 : w = 3
  · rw [if_pos c3]
    obtain ⟨c, a, r, V', e1, e2, z0, zc, hP⟩ := qLaw hn h v2 v9 v19
    rw [e1, bd_s, e2, bd_s]
    dsimp only
    rw [tailQ z0 zc]
    exact hk _ _ _ _ _ _ _ _ _ _ _ _ _ _ _ _ _ _ _ _ hP
  rw [if_neg c3]
  by_cases c4 : w = 4
  · rw [if_pos c4]
    obtain ⟨a0, V', e1, e2, hh⟩ := rFault h
    rw [e1, bd_s, e2, bd_s]
    try dsimp only
    rw [if_pos rfl]
    exact hk _ _ _ _ _ _ _ _ _ _ _ _ _ _ _ _ _ _ _ _ hh
  rw [if_neg c4]
  by_cases c5 : w = 5
  · rw [if_pos c5]
    obtain ⟨c, a, r, V', e1, e2, z0, zc, hf, hP⟩ := qPlank hn v0 h.hr h.lr v19 y1 y2
    rw [if_pos x1, if_pos x2, e1, bd_s, if_pos x1, if_pos x2, e2, bd_s]
    dsimp only
    rw [tailQ z0 zc]
    exact hk _ _ _ _ _ _ _ _ _ _ _ _ _ _ _ _ _ _ _ _ (h.q (hf.mono (by simp)) hP h.dw)
  rw [if_neg c5]
  by_cases c6 : w = 6
  · rw [if_pos c6]
    obtain ⟨c, a, r, V', e1, e2, z0, zc, hf, hP⟩ := qHouse hn v0 h.hr h.lr v19 y1 y2
    rw [if_pos x1, if_pos x2, e1, bd_s, if_pos x1, if_pos x2, e2, bd_s]
    dsimp only
    rw [tailQ z0 zc]
    exact hk _ _ _ _ _ _ _ _ _ _ _ _ _ _ _ _ _ _ _ _ (h.q (hf.mono (by simp)) hP h.dw)
  rw [if_neg c6]
  by_cases c7 : w = 7
  · rw [if_pos c7]
    obtain ⟨c, a, r, V', e1, e2, z0, zc, hf, hP⟩ := qThing v0 h.hr v19 y1 y2
    rw [if_pos x1, if_pos x2, e1, bd_s, if_pos x1, if_pos x2, e2, bd_s]
    dsimp only
    rw [tailQ z0 zc]
    exact hk _ _ _ _ _ _ _ _ _ _ _ _ _ _ _ _ _ _ _ _ (h.q (hf.mono (by simp)) (Fr.rfl _ _) h.dw)
  rw [if_neg c7]
  by_cases c8 : w = 8
  · rw [if_pos c8]
    obtain ⟨c, a, r, V', e1, e2, z0, zc, hP⟩ := qCarry hn h v19 y1 y2
    rw [if_pos x1, if_pos x2, e1, bd_s, if_pos x1, if_pos x2, e2, bd_s]
    dsimp only
    rw [tailQ z0 zc]
    exact hk _ _ _ _ _ _ _ _ _ _ _ _ _ _ _ _ _ _ _ _ hP
  rw [if_neg c8]
  by_cases c9 : w = 9
  · rw [if_pos c9]
    obtain ⟨c, a, r, V', e1, e2, z0, zc, hP⟩ := qGuests hn h v19 y1 y2
    rw [if_pos x1, if_pos x2, e1, bd_s, if_pos x1, if_pos x2, e2, bd_s]
    dsimp only
    rw [tailQ z0 zc]
    exact hk _ _ _ _ _ _ _ _ _ _ _ _ _ _ _ _ _ _ _ _ hP
  rw [if_neg c9]
  by_cases c10 : w = 10
  · rw [if_pos c10]
    obtain ⟨c, a, r, V', e1, e2, z0, zc, hh⟩ := qProp hn h v19 y1 (bz_b y2)
    rw [if_pos x1, if_pos x2, ifb y2, bd_s, e1, bd_s, if_pos x1, if_pos x2, bd_s, e2, bd_s]
    dsimp only
    rw [tailP z0 zc]
    exact hk _ _ _ _ _ _ _ _ _ _ _ _ _ _ _ _ _ _ _ _ hh
  rw [if_neg c10]
  by_cases c11 : w = 11
  · rw [if_pos c11]
    obtain ⟨c, a, r, V', e1, e2, z0, zc, hP⟩ := qMend hn h v19 y1
    rw [if_pos x1, e1, bd_s, if_pos x1, e2, bd_s]
    dsimp only
    rw [tailQ z0 zc]
    exact hk _ _ _ _ _ _ _ _ _ _ _ _ _ _ _ _ _ _ _ _ hP
  rw [if_neg c11]
  by_cases c12 : w = 12
  · rw [if_pos c12]
    obtain ⟨c, a, r, V', e1, e2, z0, zc, hP⟩ := qGive hn h v19 y1 y2 y3
    rw [if_pos x1, if_pos x2, if_pos x3, e1, bd_s, if_pos x1, if_pos x2, if_pos x3, e2, bd_s]
    dsimp only
    rw [tailQ z0 zc]
    exact hk _ _ _ _ _ _ _ _ _ _ _ _ _ _ _ _ _ _ _ _ hP
  rw [if_neg c12]
  by_cases c13 : w = 13
  · rw [if_pos c13]
    obtain ⟨a0, a1, a2, a3, a4, V', e1, e2, hh⟩ := rSweep hn h
    rw [e1, bd_s, e2, bd_s]
    try dsimp only
    rw [if_pos rfl]
    exact hk _ _ _ _ _ _ _ _ _ _ _ _ _ _ _ _ _ _ _ _ hh
  rw [if_neg c13]
  by_cases c14 : w = 14
  · rw [if_pos c14]
    obtain ⟨c, a, r, V', e1, e2, z0, zc, hP⟩ := qWeeks hn h v19 y1
    rw [if_pos x1, e1, bd_s, if_pos x1, e2, bd_s]
    dsimp only
    rw [tailQ z0 zc]
    exact hk _ _ _ _ _ _ _ _ _ _ _ _ _ _ _ _ _ _ _ _ hP
  rw [if_neg c14]
  by_cases c15 : w = 15
  · rw [if_pos c15]
    obtain ⟨a0, V', e1, e2, hh⟩ := rView hn h
    rw [e1, bd_s, e2, bd_s]
    try dsimp only
    rw [if_pos rfl]
    exact hk _ _ _ _ _ _ _ _ _ _ _ _ _ _ _ _ _ _ _ _ hh
  rw [if_neg c15]
  by_cases c16 : w = 16
  · rw [if_pos c16]
    obtain ⟨a0, V', e1, e2, hh⟩ := rWell hn h
    rw [e1, bd_s, e2, bd_s]
    try dsimp only
    rw [if_pos rfl]
    exact hk _ _ _ _ _ _ _ _ _ _ _ _ _ _ _ _ _ _ _ _ hh
  rw [if_neg c16]
  by_cases c17 : w = 17
  · rw [if_pos c17]
    obtain ⟨a0, V', e1, e2, hh⟩ := rTwins hn h
    rw [e1, bd_s, e2, bd_s]
    try dsimp only
    rw [if_pos rfl]
    exact hk _ _ _ _ _ _ _ _ _ _ _ _ _ _ _ _ _ _ _ _ hh
  rw [if_neg c17]
  by_cases c18 : w = 18
  · rw [if_pos c18]
    obtain ⟨c, a, r, V', e1, e2, z0, zc, hf, hP⟩ := qBest hn v0 h.hr v19 y1
    rw [if_pos x1, e1, bd_s, if_pos x1, e2, bd_s]
    dsimp only
    rw [tailQ z0 zc]
    exact hk _ _ _ _ _ _ _ _ _ _ _ _ _ _ _ _ _ _ _ _ (h.q (hf.mono (by simp)) (Fr.rfl _ _) h.dw)
  rw [if_neg c18]
  by_cases c19 : w = 19
  · rw [if_pos c19]
    obtain ⟨c, a, r, V', e1, e2, z0, zc, hf, hP⟩ := qStand hn v0 h.hr v19 y1 y2
    rw [if_pos x1, if_pos x2, e1, bd_s, if_pos x1, if_pos x2, e2, bd_s]
    dsimp only
    rw [tailQ z0 zc]
    exact hk _ _ _ _ _ _ _ _ _ _ _ _ _ _ _ _ _ _ _ _ (h.q (hf.mono (by simp)) (Fr.rfl _ _) h.dw)
  rw [if_neg c19]
  by_cases c20 : w = 20
  · rw [if_pos c20]
    obtain ⟨c, a, r, V', e1, e2, z0, zc, hf, hP⟩ := qHeave hn v0 h.hr v19 y1 y2 (bz y3)
    rw [if_pos x1, if_pos x2, if_pos x3, ifb y3, bd_s, e1, bd_s, if_pos x1, if_pos x2, if_pos x3, bd_s, e2, bd_s]
    dsimp only
    rw [tailQ z0 zc]
    exact hk _ _ _ _ _ _ _ _ _ _ _ _ _ _ _ _ _ _ _ _ (h.q (hf.mono (by simp)) (Fr.rfl _ _) h.dw)
  rw [if_neg c20]
  by_cases c21 : w = 21
  · rw [if_pos c21]
    obtain ⟨c, a, r, V', e1, e2, z0, zc, hf, hP⟩ := qBreaks hn v0 v8 h.hr h.lr v19 y1
    rw [if_pos x1, e1, bd_s, if_pos x1, e2, bd_s]
    dsimp only
    rw [tailQ z0 zc]
    exact hk _ _ _ _ _ _ _ _ _ _ _ _ _ _ _ _ _ _ _ _ (h.q (hf.mono (by simp)) hP h.dw)
  rw [if_neg c21]
  by_cases c22 : w = 22
  · rw [if_pos c22]
    obtain ⟨c, a, r, V', e1, e2, z0, zc, hf, hP⟩ := qMore hn v0 h.hr v19 y1
    rw [if_pos x1, e1, bd_s, if_pos x1, e2, bd_s]
    dsimp only
    rw [tailQ z0 zc]
    exact hk _ _ _ _ _ _ _ _ _ _ _ _ _ _ _ _ _ _ _ _ (h.q (hf.mono (by simp)) (Fr.rfl _ _) h.dw)
  rw [if_neg c22]
  by_cases c23 : w = 23
  · rw [if_pos c23]
    obtain ⟨a0, a1, a2, V', e1, e2, hh⟩ := rLast hn v8 h
    rw [e1, bd_s, e2, bd_s]
    try dsimp only
    rw [if_pos rfl]
    exact hk _ _ _ _ _ _ _ _ _ _ _ _ _ _ _ _ _ _ _ _ hh
  rw [if_neg c23]
  by_cases c24 : w = 24
  · rw [if_pos c24]
    obtain ⟨c, a, r, V', e1, e2, z0, zc, hf, hP⟩ := qMatch hn v0 h.hr v19 y1 y2
    rw [if_pos x1, if_pos x2, e1, bd_s, if_pos x1, if_pos x2, e2, bd_s]
    dsimp only
    rw [tailQ z0 zc]
    exact hk _ _ _ _ _ _ _ _ _ _ _ _ _ _ _ _ _ _ _ _ (h.q (hf.mono (by simp)) (Fr.rfl _ _) h.dw)
  rw [if_neg c24]
  by_cases c25 : w = 25
  · rw [if_pos c25]
    obtain ⟨c, a, r, V', e1, e2, z0, zc, hP⟩ := qHas hn h.tr h.hr (G := v11) v19 y1 (bz y2)
    rw [if_pos x1, if_pos x2, ifb y2, bd_s, e1, bd_s, if_pos x1, if_pos x2, bd_s, e2, bd_s]
    dsimp only
    rw [tailQ z0 zc]
    exact hk _ _ _ _ _ _ _ _ _ _ _ _ _ _ _ _ _ _ _ _ (h.tape (by rw [hP.1]; exact (Fr.rfl _ _).put (by simp) _ _) (hP.2.2.mono (by simp)) (by rw [hP.1]; exact h.tr.used (hP.2.2 8 (by simp)) hP.2.1))
  rw [if_neg c25]
  by_cases c26 : w = 26
  · rw [if_pos c26]
    obtain ⟨c, a, r, V', e1, e2, z0, zc, hP⟩ := qAsk hn h.tr h.hr (G := v11) v19 y1
    rw [if_pos x1, e1, bd_s, if_pos x1, e2, bd_s]
    dsimp only
    rw [tailQ z0 zc]
    exact hk _ _ _ _ _ _ _ _ _ _ _ _ _ _ _ _ _ _ _ _ (h.tape (by rw [hP.1]; exact (Fr.rfl _ _).put (by simp) _ _) (hP.2.2.mono (by simp)) (by rw [hP.1]; exact h.tr.used (hP.2.2 8 (by simp)) hP.2.1))
  rw [if_neg c26]
  by_cases c27 : w = 27
  · rw [if_pos c27]
    obtain ⟨c, a, r, V', e1, e2, z0, zc, hf, hP⟩ := qBallast hn v0 h.hr v19 y1
    rw [if_pos x1, e1, bd_s, if_pos x1, e2, bd_s]
    dsimp only
    rw [tailQ z0 zc]
    exact hk _ _ _ _ _ _ _ _ _ _ _ _ _ _ _ _ _ _ _ _ (h.q (hf.mono (by simp)) (Fr.rfl _ _) h.dw)
  rw [if_neg c27]
  by_cases c28 : w = 28
  · rw [if_pos c28]
    obtain ⟨a0, a1, V', e1, e2, hh⟩ := rThief hn h
    rw [e1, bd_s, e2, bd_s]
    try dsimp only
    rw [if_pos rfl]
    exact hk _ _ _ _ _ _ _ _ _ _ _ _ _ _ _ _ _ _ _ _ hh
  rw [if_neg c28]
  by_cases c29 : w = 29
  · rw [if_pos c29]
    obtain ⟨c, a, r, V', e1, e2, z0, zc, hf, hP⟩ := qGuards hn v0 v8 h.hr h.lr v19 y1 y2
    rw [if_pos x1, if_pos x2, e1, bd_s, if_pos x1, if_pos x2, e2, bd_s]
    dsimp only
    rw [tailQ z0 zc]
    exact hk _ _ _ _ _ _ _ _ _ _ _ _ _ _ _ _ _ _ _ _ (h.q (hf.mono (by simp)) hP h.dw)
  rw [if_neg c29]
  by_cases c30 : w = 30
  · rw [if_pos c30]
    obtain ⟨c, a, r, V', e1, e2, z0, zc, hf, hP⟩ := qLoot hn v0 v8 h.hr h.lr v19 y1
    rw [if_pos x1, e1, bd_s, if_pos x1, e2, bd_s]
    dsimp only
    rw [tailQ z0 zc]
    exact hk _ _ _ _ _ _ _ _ _ _ _ _ _ _ _ _ _ _ _ _ (h.q (hf.mono (by simp)) hP h.dw)
  rw [if_neg c30]
  by_cases c31 : w = 31
  · rw [if_pos c31]
    obtain ⟨c, a, r, V', e1, e2, z0, zc, hf, hP⟩ := qRent hn v0 v8 h.hr h.lr v19 y1 y2
    rw [if_pos x1, if_pos x2, e1, bd_s, if_pos x1, if_pos x2, e2, bd_s]
    dsimp only
    rw [tailQ z0 zc]
    exact hk _ _ _ _ _ _ _ _ _ _ _ _ _ _ _ _ _ _ _ _ (h.q (hf.mono (by simp)) hP h.dw)
  rw [if_neg c31]
  by_cases c32 : w = 32
  · rw [if_pos c32]
    obtain ⟨a0, a1, a2, V', e1, e2, hh⟩ := rPoor hn v8 h
    rw [e1, bd_s, e2, bd_s]
    try dsimp only
    rw [if_pos rfl]
    exact hk _ _ _ _ _ _ _ _ _ _ _ _ _ _ _ _ _ _ _ _ hh
  rw [if_neg c32]
  by_cases c33 : w = 33
  · rw [if_pos c33]
    obtain ⟨a0, V', e1, e2, hh⟩ := rRich hn h
    rw [e1, bd_s, e2, bd_s]
    try dsimp only
    rw [if_pos rfl]
    exact hk _ _ _ _ _ _ _ _ _ _ _ _ _ _ _ _ _ _ _ _ hh
  rw [if_neg c33]
  by_cases c34 : w = 34
  · rw [if_pos c34]
    obtain ⟨a0, V', e1, e2, hh⟩ := rHeav hn h
    rw [e1, bd_s, e2, bd_s]
    try dsimp only
    rw [if_pos rfl]
    exact hk _ _ _ _ _ _ _ _ _ _ _ _ _ _ _ _ _ _ _ _ hh
  rw [if_neg c34]
  by_cases c35 : w = 35
  · rw [if_pos c35]
    obtain ⟨a0, V', e1, e2, hh⟩ := rAlike hn h
    rw [e1, bd_s, e2, bd_s]
    try dsimp only
    rw [if_pos rfl]
    exact hk _ _ _ _ _ _ _ _ _ _ _ _ _ _ _ _ _ _ _ _ hh
  rw [if_neg c35]
  by_cases c36 : w = 36
  · rw [if_pos c36]
    obtain ⟨c, a, r, V', e1, e2, z0, zc, hf, hP⟩ := qAhead hn v0 v8 h.hr h.lr v19 y1 y2 (bz y3)
    rw [if_pos x1, if_pos x2, if_pos x3, ifb y3, bd_s, e1, bd_s, if_pos x1, if_pos x2, if_pos x3, bd_s, e2, bd_s]
    dsimp only
    rw [tailQ z0 zc]
    exact hk _ _ _ _ _ _ _ _ _ _ _ _ _ _ _ _ _ _ _ _ (h.q (hf.mono (by simp)) hP h.dw)
  rw [if_neg c36]
  by_cases c37 : w = 37
  · rw [if_pos c37]
    obtain ⟨c, a, r, V', e1, e2, z0, zc, hf, hP⟩ := qTrial hn v0 v8 h.hr h.lr h.dw v19 y1 (bz y2)
    rw [if_pos x1, if_pos x2, ifb y2, bd_s, e1, bd_s, if_pos x1, if_pos x2, bd_s, e2, bd_s]
    dsimp only
    rw [tailQ z0 zc]
    exact hk _ _ _ _ _ _ _ _ _ _ _ _ _ _ _ _ _ _ _ _ (h.q (hf.mono (by simp)) hP.1 hP.2)
  rw [if_neg c37]
  by_cases c38 : w = 38
  · rw [if_pos c38]
    obtain ⟨c, a, r, V', e1, e2, z0, zc, hf, hP⟩ := qSpan hn v0 v8 h.hr h.lr h.dw v19 y1 (bz y2)
    rw [if_pos x1, if_pos x2, ifb y2, bd_s, e1, bd_s, if_pos x1, if_pos x2, bd_s, e2, bd_s]
    dsimp only
    rw [tailQ z0 zc]
    exact hk _ _ _ _ _ _ _ _ _ _ _ _ _ _ _ _ _ _ _ _ (h.q (hf.mono (by simp)) hP.1 hP.2)
  rw [if_neg c38]
  by_cases c39 : w = 39
  · rw [if_pos c39]
    obtain ⟨c, a, r, V', e1, e2, z0, zc, hf, hP⟩ := qLed hn v0 h.hr h.dr v19 y1 (bz y2)
    rw [if_pos x1, if_pos x2, ifb y2, bd_s, e1, bd_s, if_pos x1, if_pos x2, bd_s, e2, bd_s]
    dsimp only
    rw [tailQ z0 zc]
    exact hk _ _ _ _ _ _ _ _ _ _ _ _ _ _ _ _ _ _ _ _ (h.q (hf.mono (by simp)) (Fr.rfl _ _) h.dw)
  rw [if_neg c39]
  by_cases c40 : w = 40
  · rw [if_pos c40]
    obtain ⟨c, a, r, V', e1, e2, z0, zc, hf, hP⟩ := qLog v0 h.dr v19 y1 y2
    rw [if_pos x1, if_pos x2, e1, bd_s, if_pos x1, if_pos x2, e2, bd_s]
    dsimp only
    rw [tailQ z0 zc]
    exact hk _ _ _ _ _ _ _ _ _ _ _ _ _ _ _ _ _ _ _ _ (h.q (hf.mono (by simp)) (Fr.rfl _ _) h.dw)
  rw [if_neg c40]
  by_cases c41 : w = 41
  · rw [if_pos c41]
    obtain ⟨a0, a1, V', e1, e2, hh⟩ := rSeed h y1
    rw [if_pos x1, e1, bd_s, if_pos x1, e2, bd_s]
    try dsimp only
    rw [if_pos rfl]
    exact hk _ _ _ _ _ _ _ _ _ _ _ _ _ _ _ _ _ _ _ _ hh
  rw [if_neg c41]
  by_cases c42 : w = 42
  · rw [if_pos c42]
    obtain ⟨a0, a1, a2, a3, V', e1, e2, hh⟩ := rUndo hn h
    rw [e1, bd_s, e2, bd_s]
    try dsimp only
    rw [if_pos rfl]
    exact hk _ _ _ _ _ _ _ _ _ _ _ _ _ _ _ _ _ _ _ _ hh
  rw [if_neg c42]
  by_cases c43 : w = 43
  · rw [if_pos c43]
    obtain ⟨a0, a1, a2, a3, V', e1, e2, hh⟩ := rImage hn h
    rw [e1, bd_s, e2, bd_s]
    dsimp only
    exact hk _ _ _ _ _ _ _ _ _ _ _ _ _ _ _ _ _ _ _ _ hh
  rw [if_neg c43]
  by_cases c44 : w = 44
  · rw [if_pos c44]
    obtain ⟨a0, a1, a2, a3, a4, a5, V', e1, e2, hh⟩ := rBack hn h
    rw [e1, bd_s, e2, bd_s]
    try dsimp only
    rw [if_pos rfl]
    exact hk _ _ _ _ _ _ _ _ _ _ _ _ _ _ _ _ _ _ _ _ hh
  rw [if_neg c44]
  by_cases c45 : w = 45
  · rw [if_pos c45]
    obtain ⟨a0, V', e1, e2, hh⟩ := rCount hn h y1
    rw [if_pos x1, e1, bd_s, if_pos x1, e2, bd_s]
    try dsimp only
    rw [if_pos rfl]
    exact hk _ _ _ _ _ _ _ _ _ _ _ _ _ _ _ _ _ _ _ _ hh
  rw [if_neg c45]
  exact hk _ _ _ _ _ _ _ _ _ _ _ _ _ _ _ _ _ _ _ _ h
end PLAW
